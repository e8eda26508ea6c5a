theorem dX12_tell_0 : decode cX12_tell 0 = .ok (.aload_n 0, 1) := by decide +kernel
theorem dX12_tell_1 : decode cX12_tell 1 = .ok (.iconst 0, 1) := by decide +kernel
theorem dX12_tell_2 : decode cX12_tell 2 = .ok (.putfield 1, 3) := by decide +kernel
theorem dX12_tell_5 : decode cX12_tell 5 = .ok (.aload_n 0, 1) := by decide +kernel
theorem dX12_tell_6 : decode cX12_tell 6 = .ok (.iload_n 1, 1) := by decide +kernel
theorem dX12_tell_7 : decode cX12_tell 7 = .ok (.invokevirtual 325, 3) := by decide +kernel
theorem dX12_tell_10 : decode cX12_tell 10 = .ok (.ifCond .eq 34, 3) := by decide +kernel
theorem dX12_tell_13 : decode cX12_tell 13 = .ok (.iload_n 2, 1) := by decide +kernel
theorem dX12_tell_14 : decode cX12_tell 14 = .ok (.iconst 0, 1) := by decide +kernel
theorem dX12_tell_15 : decode cX12_tell 15 = .ok (.bipush 12, 2) := by decide +kernel
theorem dX12_tell_17 : decode cX12_tell 17 = .ok (.invokestatic 201, 3) := by decide +kernel
theorem dX12_tell_20 : decode cX12_tell 20 = .ok (.ifCond .eq 24, 3) := by decide +kernel
theorem dX12_tell_23 : decode cX12_tell 23 = .ok (.iload_n 3, 1) := by decide +kernel
theorem dX12_tell_24 : decode cX12_tell 24 = .ok (.iconst (-1), 1) := by decide +kernel
theorem dX12_tell_25 : decode cX12_tell 25 = .ok (.iconst 3, 1) := by decide +kernel
theorem dX12_tell_26 : decode cX12_tell 26 = .ok (.invokestatic 201, 3) := by decide +kernel
theorem dX12_tell_29 : decode cX12_tell 29 = .ok (.ifCond .eq 15, 3) := by decide +kernel
theorem dX12_tell_32 : decode cX12_tell 32 = .ok (.aload_n 0, 1) := by decide +kernel
theorem dX12_tell_33 : decode cX12_tell 33 = .ok (.getfield 113, 3) := by decide +kernel
theorem dX12_tell_36 : decode cX12_tell 36 = .ok (.bipush 23, 2) := by decide +kernel
theorem dX12_tell_38 : decode cX12_tell 38 = .ok (.iaload, 1) := by decide +kernel
theorem dX12_tell_39 : decode cX12_tell 39 = .ok (.bipush 6, 2) := by decide +kernel
theorem dX12_tell_41 : decode cX12_tell 41 = .ok (.if_icmp .ne 5, 3) := by decide +kernel
theorem dX12_tell_44 : decode cX12_tell 44 = .ok (.iconst 0, 1) := by decide +kernel
theorem dX12_tell_45 : decode cX12_tell 45 = .ok (.ireturn, 1) := by decide +kernel
theorem dX12_tell_46 : decode cX12_tell 46 = .ok (.bipush 24, 2) := by decide +kernel
theorem dX12_tell_48 : decode cX12_tell 48 = .ok (.iconst 3, 1) := by decide +kernel
theorem dX12_tell_49 : decode cX12_tell 49 = .ok (.aload_n 0, 1) := by decide +kernel
theorem dX12_tell_50 : decode cX12_tell 50 = .ok (.getfield 113, 3) := by decide +kernel
theorem dX12_tell_53 : decode cX12_tell 53 = .ok (.bipush 23, 2) := by decide +kernel
theorem dX12_tell_55 : decode cX12_tell 55 = .ok (.iaload, 1) := by decide +kernel
theorem dX12_tell_56 : decode cX12_tell 56 = .ok (.imul, 1) := by decide +kernel
theorem dX12_tell_57 : decode cX12_tell 57 = .ok (.iadd, 1) := by decide +kernel
theorem dX12_tell_58 : decode cX12_tell 58 = .ok (.istore 4, 2) := by decide +kernel
theorem dX12_tell_60 : decode cX12_tell 60 = .ok (.aload_n 0, 1) := by decide +kernel
theorem dX12_tell_61 : decode cX12_tell 61 = .ok (.getfield 113, 3) := by decide +kernel
theorem dX12_tell_64 : decode cX12_tell 64 = .ok (.iload 4, 2) := by decide +kernel
theorem dX12_tell_66 : decode cX12_tell 66 = .ok (.iload_n 1, 1) := by decide +kernel
theorem dX12_tell_67 : decode cX12_tell 67 = .ok (.iastore, 1) := by decide +kernel
theorem dX12_tell_68 : decode cX12_tell 68 = .ok (.aload_n 0, 1) := by decide +kernel
theorem dX12_tell_69 : decode cX12_tell 69 = .ok (.getfield 113, 3) := by decide +kernel
theorem dX12_tell_72 : decode cX12_tell 72 = .ok (.iload 4, 2) := by decide +kernel
theorem dX12_tell_74 : decode cX12_tell 74 = .ok (.iconst 1, 1) := by decide +kernel
theorem dX12_tell_75 : decode cX12_tell 75 = .ok (.iadd, 1) := by decide +kernel
theorem dX12_tell_76 : decode cX12_tell 76 = .ok (.iload_n 2, 1) := by decide +kernel
theorem dX12_tell_77 : decode cX12_tell 77 = .ok (.iastore, 1) := by decide +kernel
theorem dX12_tell_78 : decode cX12_tell 78 = .ok (.aload_n 0, 1) := by decide +kernel
theorem dX12_tell_79 : decode cX12_tell 79 = .ok (.getfield 113, 3) := by decide +kernel
theorem dX12_tell_82 : decode cX12_tell 82 = .ok (.iload 4, 2) := by decide +kernel
theorem dX12_tell_84 : decode cX12_tell 84 = .ok (.iconst 2, 1) := by decide +kernel
theorem dX12_tell_85 : decode cX12_tell 85 = .ok (.iadd, 1) := by decide +kernel
theorem dX12_tell_86 : decode cX12_tell 86 = .ok (.iload_n 3, 1) := by decide +kernel
theorem dX12_tell_87 : decode cX12_tell 87 = .ok (.iastore, 1) := by decide +kernel
theorem dX12_tell_88 : decode cX12_tell 88 = .ok (.aload_n 0, 1) := by decide +kernel
theorem dX12_tell_89 : decode cX12_tell 89 = .ok (.getfield 113, 3) := by decide +kernel
theorem dX12_tell_92 : decode cX12_tell 92 = .ok (.bipush 23, 2) := by decide +kernel
theorem dX12_tell_94 : decode cX12_tell 94 = .ok (.dup2, 1) := by decide +kernel
theorem dX12_tell_95 : decode cX12_tell 95 = .ok (.iaload, 1) := by decide +kernel
theorem dX12_tell_96 : decode cX12_tell 96 = .ok (.iconst 1, 1) := by decide +kernel
theorem dX12_tell_97 : decode cX12_tell 97 = .ok (.iadd, 1) := by decide +kernel
theorem dX12_tell_98 : decode cX12_tell 98 = .ok (.iastore, 1) := by decide +kernel
theorem dX12_tell_99 : decode cX12_tell 99 = .ok (.iconst 1, 1) := by decide +kernel
theorem dX12_tell_100 : decode cX12_tell 100 = .ok (.ireturn, 1) := by decide +kernel
noncomputable def FX12_tell (a0 : Nat) (p1 : Int32) (p2 : Int32) (p3 : Int32) : PP Bool := bd (sI a0 0 (0 : Int32)) (fun (_ : Unit) => bd (FX12_isPlace a0 p1) (fun x1 => if ((b2i x1)) = 0 then zb (0 : Int32) else bd (FX12_within p2 (0 : Int32) (12 : Int32)) (fun x2 => if ((b2i x2)) = 0 then zb (0 : Int32) else bd (FX12_within p3 (-1 : Int32) (3 : Int32)) (fun x3 => if ((b2i x3)) = 0 then zb (0 : Int32) else bd (aI (rf a0 23) 966 (23 : Int32)) (fun x4 => if x4 = (6 : Int32) then zb (0 : Int32) else bd (aI (rf a0 23) 966 (23 : Int32)) (fun x5 => lt ((24 : Int32) + ((3 : Int32) * x5)) (fun y6 => bd (uI (rf a0 23) 966 y6 p1) (fun (_ : Unit) => bd (uI (rf a0 23) 966 (y6 + (1 : Int32)) p2) (fun (_ : Unit) => bd (uI (rf a0 23) 966 (y6 + (2 : Int32)) p3) (fun (_ : Unit) => bd (aI (rf a0 23) 966 (23 : Int32)) (fun x7 => bd (uI (rf a0 23) 966 (23 : Int32) (x7 + (1 : Int32))) (fun (_ : Unit) => zb (1 : Int32)))))))))))))
set_option maxHeartbeats 4000000 in
set_option maxRecDepth 100000 in
theorem SX12_tell {l : Launch} {K : KK} {n : Nat} {hn : 270 ≤ n} (a0 : Nat) (p1 : Int32) (p2 : Int32) (p3 : Int32) (h0 : ob a0 11) : CT l K n 2 mX12_tell [.ref (K.2.1 + a0), .int p1, .int p2, .int p3] enZ (FX12_tell a0 p1 p2 p3) := by
  refine CT.of2 (lv2 := [(0, .ref (K.2.1 + a0)), (1, .int p1), (2, .int p2), (3, .int p3)]) (by decide) rfl hn (Nat.le_of_ble_eq_true rfl) rfl (rp_id ?_)
  unfold FX12_tell
  refine rp_aload_n 0 dX12_tell_0 rfl ?_
  refine rp_iconst (0 : Int32) dX12_tell_1 (by decide) ?_
  refine rp_putI fi_X12_1 fp_X12_0 h0 rfl dX12_tell_2 ?_
  refine rp_aload_n 0 dX12_tell_5 rfl ?_
  refine rp_iload_n 1 dX12_tell_6 rfl ?_
  refine rp_callVz [.int p1] (SX12_isPlace (hn := hn) a0 p1 h0) cvX12_isPlace (mw (i := 1579) (by decide +kernel)) (by omega) h0 (by decide) rfl rfl rfl (Nat.le_of_ble_eq_true rfl) dX12_tell_7 (fun x1 => ?_)
  refine rp_if_eq 44 dX12_tell_10 (by decide) ?_ ?_
  · refine rp_iconst (0 : Int32) dX12_tell_44 (by decide) ?_
    exact rp_zretb rfl dX12_tell_45
  · refine rp_iload_n 2 dX12_tell_13 rfl ?_
    refine rp_iconst (0 : Int32) dX12_tell_14 (by decide) ?_
    refine rp_bipush (12 : Int32) dX12_tell_15 (by decide) ?_
    refine rp_callSz [.int p2, .int (0 : Int32), .int (12 : Int32)] (SX12_within (hn := hn) p2 (0 : Int32) (12 : Int32)) csX12_within (mw (i := 1484) (by decide +kernel)) (by omega) rfl rfl (Nat.le_of_ble_eq_true rfl) dX12_tell_17 (fun x2 => ?_)
    refine rp_if_eq 44 dX12_tell_20 (by decide) ?_ ?_
    · refine rp_iconst (0 : Int32) dX12_tell_44 (by decide) ?_
      exact rp_zretb rfl dX12_tell_45
    · refine rp_iload_n 3 dX12_tell_23 rfl ?_
      refine rp_iconst (-1 : Int32) dX12_tell_24 (by decide) ?_
      refine rp_iconst (3 : Int32) dX12_tell_25 (by decide) ?_
      refine rp_callSz [.int p3, .int (-1 : Int32), .int (3 : Int32)] (SX12_within (hn := hn) p3 (-1 : Int32) (3 : Int32)) csX12_within (mw (i := 1484) (by decide +kernel)) (by omega) rfl rfl (Nat.le_of_ble_eq_true rfl) dX12_tell_26 (fun x3 => ?_)
      refine rp_if_eq 44 dX12_tell_29 (by decide) ?_ ?_
      · refine rp_iconst (0 : Int32) dX12_tell_44 (by decide) ?_
        exact rp_zretb rfl dX12_tell_45
      · refine rp_aload_n 0 dX12_tell_32 rfl ?_
        refine rp_getR fi_X12_113 h0 rfl dX12_tell_33 ?_
        refine rp_bipush (23 : Int32) dX12_tell_36 (by decide) ?_
        refine rp_iald (tX12_23 h0) dX12_tell_38 (fun x4 => ?_)
        refine rp_bipush (6 : Int32) dX12_tell_39 (by decide) ?_
        refine rp_icmp_ne 46 dX12_tell_41 (by decide) ?_ ?_
        · refine rp_bipush (24 : Int32) dX12_tell_46 (by decide) ?_
          refine rp_iconst (3 : Int32) dX12_tell_48 (by decide) ?_
          refine rp_aload_n 0 dX12_tell_49 rfl ?_
          refine rp_getR fi_X12_113 h0 rfl dX12_tell_50 ?_
          refine rp_bipush (23 : Int32) dX12_tell_53 (by decide) ?_
          refine rp_iald (tX12_23 h0) dX12_tell_55 (fun x5 => ?_)
          refine rp_imul dX12_tell_56 ?_
          refine rp_iadd dX12_tell_57 ?_
          refine rp_lti (fun y6 => ?_)
          refine rp_istore [(4, .int y6), (0, .ref (K.2.1 + a0)), (1, .int p1), (2, .int p2), (3, .int p3)] dX12_tell_58 (by decide) rfl ?_
          refine rp_aload_n 1 dX12_tell_60 rfl ?_
          refine rp_getR fi_X12_113 h0 rfl dX12_tell_61 ?_
          refine rp_iload 0 dX12_tell_64 rfl ?_
          refine rp_iload_n 2 dX12_tell_66 rfl ?_
          refine rp_iast (tX12_23 h0) dX12_tell_67 ?_
          refine rp_aload_n 1 dX12_tell_68 rfl ?_
          refine rp_getR fi_X12_113 h0 rfl dX12_tell_69 ?_
          refine rp_iload 0 dX12_tell_72 rfl ?_
          refine rp_iconst (1 : Int32) dX12_tell_74 (by decide) ?_
          refine rp_iadd dX12_tell_75 ?_
          refine rp_iload_n 3 dX12_tell_76 rfl ?_
          refine rp_iast (tX12_23 h0) dX12_tell_77 ?_
          refine rp_aload_n 1 dX12_tell_78 rfl ?_
          refine rp_getR fi_X12_113 h0 rfl dX12_tell_79 ?_
          refine rp_iload 0 dX12_tell_82 rfl ?_
          refine rp_iconst (2 : Int32) dX12_tell_84 (by decide) ?_
          refine rp_iadd dX12_tell_85 ?_
          refine rp_iload_n 4 dX12_tell_86 rfl ?_
          refine rp_iast (tX12_23 h0) dX12_tell_87 ?_
          refine rp_aload_n 1 dX12_tell_88 rfl ?_
          refine rp_getR fi_X12_113 h0 rfl dX12_tell_89 ?_
          refine rp_bipush (23 : Int32) dX12_tell_92 (by decide) ?_
          refine rp_dup2 dX12_tell_94 rfl rfl ?_
          refine rp_iald (tX12_23 h0) dX12_tell_95 (fun x7 => ?_)
          refine rp_iconst (1 : Int32) dX12_tell_96 (by decide) ?_
          refine rp_iadd dX12_tell_97 ?_
          refine rp_iast (tX12_23 h0) dX12_tell_98 ?_
          refine rp_iconst (1 : Int32) dX12_tell_99 (by decide) ?_
          exact rp_zretb rfl dX12_tell_100
        · refine rp_iconst (0 : Int32) dX12_tell_44 (by decide) ?_
          exact rp_zretb rfl dX12_tell_45

theorem dX12_hungFor_0 : decode cX12_hungFor 0 = .ok (.aload_n 0, 1) := by decide +kernel
theorem dX12_hungFor_1 : decode cX12_hungFor 1 = .ok (.invokevirtual 355, 3) := by decide +kernel
theorem dX12_hungFor_4 : decode cX12_hungFor 4 = .ok (.aload_n 0, 1) := by decide +kernel
theorem dX12_hungFor_5 : decode cX12_hungFor 5 = .ok (.sipush 882, 3) := by decide +kernel
theorem dX12_hungFor_8 : decode cX12_hungFor 8 = .ok (.iload_n 1, 1) := by decide +kernel
theorem dX12_hungFor_9 : decode cX12_hungFor 9 = .ok (.iload_n 2, 1) := by decide +kernel
theorem dX12_hungFor_10 : decode cX12_hungFor 10 = .ok (.iconst 1, 1) := by decide +kernel
theorem dX12_hungFor_11 : decode cX12_hungFor 11 = .ok (.invokevirtual 338, 3) := by decide +kernel
theorem dX12_hungFor_14 : decode cX12_hungFor 14 = .ok (.aload_n 0, 1) := by decide +kernel
theorem dX12_hungFor_15 : decode cX12_hungFor 15 = .ok (.iload_n 3, 1) := by decide +kernel
theorem dX12_hungFor_16 : decode cX12_hungFor 16 = .ok (.invokevirtual 358, 3) := by decide +kernel
theorem dX12_hungFor_19 : decode cX12_hungFor 19 = .ok (.return_, 1) := by decide +kernel
noncomputable def FX12_hungFor (a0 : Nat) (p1 : Int32) (p2 : Int32) (p3 : Int32) : PP Unit := bd (FX12_triesNow a0) (fun (_ : Unit) => bd (FX12_hangs a0 (882 : Int32) p1 p2 (1 : Int32)) (fun (_ : Unit) => bd (FX12_runs a0 p3) (fun (_ : Unit) => pu ())))
set_option maxHeartbeats 4000000 in
set_option maxRecDepth 100000 in
theorem SX12_hungFor {l : Launch} {K : KK} {n : Nat} {hn : 270 ≤ n} (a0 : Nat) (p1 : Int32) (p2 : Int32) (p3 : Int32) (h0 : ob a0 11) : CT l K n 4 mX12_hungFor [.ref (K.2.1 + a0), .int p1, .int p2, .int p3] enU (FX12_hungFor a0 p1 p2 p3) := by
  refine CT.of2 (lv2 := [(0, .ref (K.2.1 + a0)), (1, .int p1), (2, .int p2), (3, .int p3)]) (by decide) rfl hn (Nat.le_of_ble_eq_true rfl) rfl (rp_id ?_)
  unfold FX12_hungFor
  refine rp_aload_n 0 dX12_hungFor_0 rfl ?_
  refine rp_callVv [] (SX12_triesNow (hn := hn) a0 h0) cvX12_triesNow (mw (i := 1678) (by decide +kernel)) (by omega) h0 (by decide) rfl rfl rfl (Nat.le_of_ble_eq_true rfl) dX12_hungFor_1 (fun x1 => ?_)
  refine rp_aload_n 0 dX12_hungFor_4 rfl ?_
  refine rp_sipush (882 : Int32) dX12_hungFor_5 (by decide) ?_
  refine rp_iload_n 1 dX12_hungFor_8 rfl ?_
  refine rp_iload_n 2 dX12_hungFor_9 rfl ?_
  refine rp_iconst (1 : Int32) dX12_hungFor_10 (by decide) ?_
  refine rp_callVv [.int (882 : Int32), .int p1, .int p2, .int (1 : Int32)] (SX12_hangs (hn := hn) a0 (882 : Int32) p1 p2 (1 : Int32) h0) cvX12_hangs (mw (i := 1627) (by decide +kernel)) (by omega) h0 (by decide) rfl rfl rfl (Nat.le_of_ble_eq_true rfl) dX12_hungFor_11 (fun x2 => ?_)
  refine rp_aload_n 0 dX12_hungFor_14 rfl ?_
  refine rp_iload_n 3 dX12_hungFor_15 rfl ?_
  refine rp_callVv [.int p3] (SX12_runs (hn := hn) a0 p3 h0) cvX12_runs (mw (i := 1682) (by decide +kernel)) (by omega) h0 (by decide) rfl rfl rfl (Nat.le_of_ble_eq_true rfl) dX12_hungFor_16 (fun x3 => ?_)
  exact rp_pu (rp_vret rfl dX12_hungFor_19)

theorem dX12_isTold_0 : decode cX12_isTold 0 = .ok (.aload_n 0, 1) := by decide +kernel
theorem dX12_isTold_1 : decode cX12_isTold 1 = .ok (.iconst 0, 1) := by decide +kernel
theorem dX12_isTold_2 : decode cX12_isTold 2 = .ok (.iload_n 1, 1) := by decide +kernel
theorem dX12_isTold_3 : decode cX12_isTold 3 = .ok (.iload_n 2, 1) := by decide +kernel
theorem dX12_isTold_4 : decode cX12_isTold 4 = .ok (.iconst 1, 1) := by decide +kernel
theorem dX12_isTold_5 : decode cX12_isTold 5 = .ok (.invokevirtual 331, 3) := by decide +kernel
theorem dX12_isTold_8 : decode cX12_isTold 8 = .ok (.istore_n 3, 1) := by decide +kernel
theorem dX12_isTold_9 : decode cX12_isTold 9 = .ok (.iconst 0, 1) := by decide +kernel
theorem dX12_isTold_10 : decode cX12_isTold 10 = .ok (.istore 4, 2) := by decide +kernel
theorem dX12_isTold_12 : decode cX12_isTold 12 = .ok (.iload 4, 2) := by decide +kernel
theorem dX12_isTold_14 : decode cX12_isTold 14 = .ok (.aload_n 0, 1) := by decide +kernel
theorem dX12_isTold_15 : decode cX12_isTold 15 = .ok (.getfield 113, 3) := by decide +kernel
theorem dX12_isTold_18 : decode cX12_isTold 18 = .ok (.bipush 23, 2) := by decide +kernel
theorem dX12_isTold_20 : decode cX12_isTold 20 = .ok (.iaload, 1) := by decide +kernel
theorem dX12_isTold_21 : decode cX12_isTold 21 = .ok (.if_icmp .ge 69, 3) := by decide +kernel
theorem dX12_isTold_24 : decode cX12_isTold 24 = .ok (.iload_n 3, 1) := by decide +kernel
theorem dX12_isTold_25 : decode cX12_isTold 25 = .ok (.ifCond .eq 65, 3) := by decide +kernel
theorem dX12_isTold_28 : decode cX12_isTold 28 = .ok (.bipush 24, 2) := by decide +kernel
theorem dX12_isTold_30 : decode cX12_isTold 30 = .ok (.iconst 3, 1) := by decide +kernel
theorem dX12_isTold_31 : decode cX12_isTold 31 = .ok (.iload 4, 2) := by decide +kernel
theorem dX12_isTold_33 : decode cX12_isTold 33 = .ok (.imul, 1) := by decide +kernel
theorem dX12_isTold_34 : decode cX12_isTold 34 = .ok (.iadd, 1) := by decide +kernel
theorem dX12_isTold_35 : decode cX12_isTold 35 = .ok (.istore 5, 2) := by decide +kernel
theorem dX12_isTold_37 : decode cX12_isTold 37 = .ok (.aload_n 0, 1) := by decide +kernel
theorem dX12_isTold_38 : decode cX12_isTold 38 = .ok (.iload_n 1, 1) := by decide +kernel
theorem dX12_isTold_39 : decode cX12_isTold 39 = .ok (.iload_n 2, 1) := by decide +kernel
theorem dX12_isTold_40 : decode cX12_isTold 40 = .ok (.aload_n 0, 1) := by decide +kernel
theorem dX12_isTold_41 : decode cX12_isTold 41 = .ok (.getfield 113, 3) := by decide +kernel
theorem dX12_isTold_44 : decode cX12_isTold 44 = .ok (.iload 5, 2) := by decide +kernel
theorem dX12_isTold_46 : decode cX12_isTold 46 = .ok (.iconst 1, 1) := by decide +kernel
theorem dX12_isTold_47 : decode cX12_isTold 47 = .ok (.iadd, 1) := by decide +kernel
theorem dX12_isTold_48 : decode cX12_isTold 48 = .ok (.iaload, 1) := by decide +kernel
theorem dX12_isTold_49 : decode cX12_isTold 49 = .ok (.invokevirtual 379, 3) := by decide +kernel
theorem dX12_isTold_52 : decode cX12_isTold 52 = .ok (.aload_n 0, 1) := by decide +kernel
theorem dX12_isTold_53 : decode cX12_isTold 53 = .ok (.sipush 882, 3) := by decide +kernel
theorem dX12_isTold_56 : decode cX12_isTold 56 = .ok (.aload_n 0, 1) := by decide +kernel
theorem dX12_isTold_57 : decode cX12_isTold 57 = .ok (.getfield 113, 3) := by decide +kernel
theorem dX12_isTold_60 : decode cX12_isTold 60 = .ok (.iload 5, 2) := by decide +kernel
theorem dX12_isTold_62 : decode cX12_isTold 62 = .ok (.iaload, 1) := by decide +kernel
theorem dX12_isTold_63 : decode cX12_isTold 63 = .ok (.invokevirtual 307, 3) := by decide +kernel
theorem dX12_isTold_66 : decode cX12_isTold 66 = .ok (.aload_n 0, 1) := by decide +kernel
theorem dX12_isTold_67 : decode cX12_isTold 67 = .ok (.getfield 113, 3) := by decide +kernel
theorem dX12_isTold_70 : decode cX12_isTold 70 = .ok (.iload 5, 2) := by decide +kernel
theorem dX12_isTold_72 : decode cX12_isTold 72 = .ok (.iconst 2, 1) := by decide +kernel
theorem dX12_isTold_73 : decode cX12_isTold 73 = .ok (.iadd, 1) := by decide +kernel
theorem dX12_isTold_74 : decode cX12_isTold 74 = .ok (.iaload, 1) := by decide +kernel
theorem dX12_isTold_75 : decode cX12_isTold 75 = .ok (.if_icmp .ne 7, 3) := by decide +kernel
theorem dX12_isTold_78 : decode cX12_isTold 78 = .ok (.iconst 1, 1) := by decide +kernel
theorem dX12_isTold_79 : decode cX12_isTold 79 = .ok (.goto 4, 3) := by decide +kernel
theorem dX12_isTold_82 : decode cX12_isTold 82 = .ok (.iconst 0, 1) := by decide +kernel
theorem dX12_isTold_83 : decode cX12_isTold 83 = .ok (.istore_n 3, 1) := by decide +kernel
theorem dX12_isTold_84 : decode cX12_isTold 84 = .ok (.iinc 4 1, 3) := by decide +kernel
theorem dX12_isTold_87 : decode cX12_isTold 87 = .ok (.goto (-75), 3) := by decide +kernel
theorem dX12_isTold_90 : decode cX12_isTold 90 = .ok (.iload_n 3, 1) := by decide +kernel
theorem dX12_isTold_91 : decode cX12_isTold 91 = .ok (.ireturn, 1) := by decide +kernel
noncomputable def FX12_isTold (a0 : Nat) (p1 : Int32) (p2 : Int32) : PP Bool := bd (FX12_mayHang a0 (0 : Int32) p1 p2 (1 : Int32)) (fun x1 => lt ((b2i x1)) (fun y2 => bd (it (fun (s3 : Int32 × Int32) => (bd (aI (rf a0 23) 966 (23 : Int32)) (fun x4 => if x4 ≤ s3.2 then pu (Sum.inr s3.1) else if s3.1 = 0 then pu (Sum.inr s3.1) else lt ((24 : Int32) + ((3 : Int32) * s3.2)) (fun y5 => bd (aI (rf a0 23) 966 (y5 + (1 : Int32))) (fun x6 => bd (FX12_hungFor a0 p1 p2 x6) (fun (_ : Unit) => bd (aI (rf a0 23) 966 y5) (fun x8 => bd (FX12_weatherOf a0 (882 : Int32) x8) (fun x9 => bd (aI (rf a0 23) 966 (y5 + (2 : Int32))) (fun x10 => bd (if x9 = x10 then pu (1 : Int32) else pu (0 : Int32) : PP (Int32)) (fun (v11 : Int32) => lt (s3.2 + (1 : Int32)) (fun y12 => pu (Sum.inl (v11, y12))))))))))) : PP ((Int32 × Int32) ⊕ (Int32)))) FU (y2, (0 : Int32))) (fun (v13 : Int32) => zb v13)))
set_option maxHeartbeats 4000000 in
set_option maxRecDepth 100000 in
theorem SX12_isTold {l : Launch} {K : KK} {n : Nat} {hn : 270 ≤ n} (a0 : Nat) (p1 : Int32) (p2 : Int32) (h0 : ob a0 11) : CT l K n 5 mX12_isTold [.ref (K.2.1 + a0), .int p1, .int p2] enZ (FX12_isTold a0 p1 p2) := by
  refine CT.of2 (lv2 := [(0, .ref (K.2.1 + a0)), (1, .int p1), (2, .int p2)]) (by decide) rfl hn (Nat.le_of_ble_eq_true rfl) rfl (rp_id ?_)
  unfold FX12_isTold
  refine rp_aload_n 0 dX12_isTold_0 rfl ?_
  refine rp_iconst (0 : Int32) dX12_isTold_1 (by decide) ?_
  refine rp_iload_n 1 dX12_isTold_2 rfl ?_
  refine rp_iload_n 2 dX12_isTold_3 rfl ?_
  refine rp_iconst (1 : Int32) dX12_isTold_4 (by decide) ?_
  refine rp_callVz [.int (0 : Int32), .int p1, .int p2, .int (1 : Int32)] (SX12_mayHang (hn := hn) a0 (0 : Int32) p1 p2 (1 : Int32) h0) cvX12_mayHang (mw (i := 1615) (by decide +kernel)) (by omega) h0 (by decide) rfl rfl rfl (Nat.le_of_ble_eq_true rfl) dX12_isTold_5 (fun x1 => ?_)
  refine rp_lti (fun y2 => ?_)
  refine rp_istore_n [(3, .int y2), (0, .ref (K.2.1 + a0)), (1, .int p1), (2, .int p2)] dX12_isTold_8 (by decide) rfl ?_
  refine rp_iconst (0 : Int32) dX12_isTold_9 (by decide) ?_
  refine rp_istore [(4, .int (0 : Int32)), (3, .int y2), (0, .ref (K.2.1 + a0)), (1, .int p1), (2, .int p2)] dX12_isTold_10 (by decide) rfl ?_
  refine rp_as ?_
  refine rp_join 90 (fun v13 => [(3, .int v13)]) (fun _ => []) (fun v13 => ?_) (fun hX12_0 => ?_)
  · refine rp_iload_n 0 dX12_isTold_90 rfl ?_
    exact rp_zretb rfl dX12_isTold_91
  refine rp_sub [2, 3, 4, 1, 0] rfl (rp_it (fun (s3 : Int32 × Int32) => [(0, .ref (K.2.1 + a0)), (1, .int p1), (2, .int p2), (3, .int s3.1), (4, .int s3.2)]) (fun N12 ih12 s3 => ?_) FU (y2, (0 : Int32)))
  refine rp_iload 4 dX12_isTold_12 rfl ?_
  refine rp_aload_n 0 dX12_isTold_14 rfl ?_
  refine rp_getR fi_X12_113 h0 rfl dX12_isTold_15 ?_
  refine rp_bipush (23 : Int32) dX12_isTold_18 (by decide) ?_
  refine rp_iald (tX12_23 h0) dX12_isTold_20 (fun x4 => ?_)
  refine rp_icmp_ge 90 dX12_isTold_21 (by decide) ?_ ?_
  · exact rp_sub [3] rfl (rp_puR (hX12_0 s3.1))
  · refine rp_iload_n 3 dX12_isTold_24 rfl ?_
    refine rp_if_eq 90 dX12_isTold_25 (by decide) ?_ ?_
    · exact rp_sub [3] rfl (rp_puR (hX12_0 s3.1))
    · refine rp_bipush (24 : Int32) dX12_isTold_28 (by decide) ?_
      refine rp_iconst (3 : Int32) dX12_isTold_30 (by decide) ?_
      refine rp_iload 4 dX12_isTold_31 rfl ?_
      refine rp_imul dX12_isTold_33 ?_
      refine rp_iadd dX12_isTold_34 ?_
      refine rp_lti (fun y5 => ?_)
      refine rp_istore [(5, .int y5), (0, .ref (K.2.1 + a0)), (1, .int p1), (2, .int p2), (3, .int s3.1), (4, .int s3.2)] dX12_isTold_35 (by decide) rfl ?_
      refine rp_aload_n 1 dX12_isTold_37 rfl ?_
      refine rp_iload_n 2 dX12_isTold_38 rfl ?_
      refine rp_iload_n 3 dX12_isTold_39 rfl ?_
      refine rp_aload_n 1 dX12_isTold_40 rfl ?_
      refine rp_getR fi_X12_113 h0 rfl dX12_isTold_41 ?_
      refine rp_iload 0 dX12_isTold_44 rfl ?_
      refine rp_iconst (1 : Int32) dX12_isTold_46 (by decide) ?_
      refine rp_iadd dX12_isTold_47 ?_
      refine rp_iald (tX12_23 h0) dX12_isTold_48 (fun x6 => ?_)
      refine rp_callVv [.int p1, .int p2, .int x6] (SX12_hungFor (hn := hn) a0 p1 p2 x6 h0) cvX12_hungFor (mw (i := 1741) (by decide +kernel)) (by omega) h0 (by decide) rfl rfl rfl (Nat.le_of_ble_eq_true rfl) dX12_isTold_49 (fun x7 => ?_)
      refine rp_aload_n 1 dX12_isTold_52 rfl ?_
      refine rp_sipush (882 : Int32) dX12_isTold_53 (by decide) ?_
      refine rp_aload_n 1 dX12_isTold_56 rfl ?_
      refine rp_getR fi_X12_113 h0 rfl dX12_isTold_57 ?_
      refine rp_iload 0 dX12_isTold_60 rfl ?_
      refine rp_iald (tX12_23 h0) dX12_isTold_62 (fun x8 => ?_)
      refine rp_callVi [.int (882 : Int32), .int x8] (SX12_weatherOf (hn := hn) a0 (882 : Int32) x8 h0) cvX12_weatherOf (mw (i := 1587) (by decide +kernel)) (by omega) h0 (by decide) rfl rfl rfl (Nat.le_of_ble_eq_true rfl) dX12_isTold_63 (fun x9 => ?_)
      refine rp_aload_n 1 dX12_isTold_66 rfl ?_
      refine rp_getR fi_X12_113 h0 rfl dX12_isTold_67 ?_
      refine rp_iload 0 dX12_isTold_70 rfl ?_
      refine rp_iconst (2 : Int32) dX12_isTold_72 (by decide) ?_
      refine rp_iadd dX12_isTold_73 ?_
      refine rp_iald (tX12_23 h0) dX12_isTold_74 (fun x10 => ?_)
      refine rp_as ?_
      refine rp_join 83 (fun (v11 : Int32) => [(0, .ref (K.2.1 + a0)), (1, .int p1), (2, .int p2), (4, .int s3.2)]) (fun v11 => [.int v11]) (fun v11 => ?_) (fun hJ83 => ?_)
      · refine rp_istore_n [(3, .int v11), (0, .ref (K.2.1 + a0)), (1, .int p1), (2, .int p2), (4, .int s3.2)] dX12_isTold_83 (by decide) rfl ?_
        refine rp_iinc (fun y12 => [(4, .int y12), (3, .int v11), (0, .ref (K.2.1 + a0)), (1, .int p1), (2, .int p2)]) 4 dX12_isTold_84 rfl (by rfl) (by decide) (fun y12 => rfl) (fun y12 => ?_)
        refine rp_goto 12 dX12_isTold_87 (by decide) ?_
        exact rp_sub [2, 3, 4, 1, 0] rfl (ih12 (v11, y12))
      refine rp_icmp_ne 82 dX12_isTold_75 (by decide) ?_ ?_
      · refine rp_iconst (0 : Int32) dX12_isTold_82 (by decide) ?_
        exact rp_sub [1, 2, 3, 5] rfl (rp_pu (hJ83 (0 : Int32)))
      · refine rp_iconst (1 : Int32) dX12_isTold_78 (by decide) ?_
        refine rp_goto 83 dX12_isTold_79 (by decide) ?_
        exact rp_sub [1, 2, 3, 5] rfl (rp_pu (hJ83 (1 : Int32)))

theorem dX12_pairs_0 : decode cX12_pairs 0 = .ok (.aload_n 0, 1) := by decide +kernel
theorem dX12_pairs_1 : decode cX12_pairs 1 = .ok (.iconst 0, 1) := by decide +kernel
theorem dX12_pairs_2 : decode cX12_pairs 2 = .ok (.putfield 1, 3) := by decide +kernel
theorem dX12_pairs_5 : decode cX12_pairs 5 = .ok (.iload_n 1, 1) := by decide +kernel
theorem dX12_pairs_6 : decode cX12_pairs 6 = .ok (.iconst 0, 1) := by decide +kernel
theorem dX12_pairs_7 : decode cX12_pairs 7 = .ok (.iconst 2, 1) := by decide +kernel
theorem dX12_pairs_8 : decode cX12_pairs 8 = .ok (.invokestatic 201, 3) := by decide +kernel
theorem dX12_pairs_11 : decode cX12_pairs 11 = .ok (.ifCond .ne 5, 3) := by decide +kernel
theorem dX12_pairs_14 : decode cX12_pairs 14 = .ok (.iconst (-1), 1) := by decide +kernel
theorem dX12_pairs_15 : decode cX12_pairs 15 = .ok (.ireturn, 1) := by decide +kernel
theorem dX12_pairs_16 : decode cX12_pairs 16 = .ok (.iconst 0, 1) := by decide +kernel
theorem dX12_pairs_17 : decode cX12_pairs 17 = .ok (.istore_n 2, 1) := by decide +kernel
theorem dX12_pairs_18 : decode cX12_pairs 18 = .ok (.iconst 0, 1) := by decide +kernel
theorem dX12_pairs_19 : decode cX12_pairs 19 = .ok (.istore_n 3, 1) := by decide +kernel
theorem dX12_pairs_20 : decode cX12_pairs 20 = .ok (.iconst 0, 1) := by decide +kernel
theorem dX12_pairs_21 : decode cX12_pairs 21 = .ok (.istore 4, 2) := by decide +kernel
theorem dX12_pairs_23 : decode cX12_pairs 23 = .ok (.iconst 0, 1) := by decide +kernel
theorem dX12_pairs_24 : decode cX12_pairs 24 = .ok (.istore 5, 2) := by decide +kernel
theorem dX12_pairs_26 : decode cX12_pairs 26 = .ok (.iload 5, 2) := by decide +kernel
theorem dX12_pairs_28 : decode cX12_pairs 28 = .ok (.aload_n 0, 1) := by decide +kernel
theorem dX12_pairs_29 : decode cX12_pairs 29 = .ok (.invokevirtual 269, 3) := by decide +kernel
theorem dX12_pairs_32 : decode cX12_pairs 32 = .ok (.if_icmp .ge 57, 3) := by decide +kernel
theorem dX12_pairs_35 : decode cX12_pairs 35 = .ok (.iconst 0, 1) := by decide +kernel
theorem dX12_pairs_36 : decode cX12_pairs 36 = .ok (.istore 6, 2) := by decide +kernel
theorem dX12_pairs_38 : decode cX12_pairs 38 = .ok (.iload 6, 2) := by decide +kernel
theorem dX12_pairs_40 : decode cX12_pairs 40 = .ok (.aload_n 0, 1) := by decide +kernel
theorem dX12_pairs_41 : decode cX12_pairs 41 = .ok (.invokevirtual 285, 3) := by decide +kernel
theorem dX12_pairs_44 : decode cX12_pairs 44 = .ok (.if_icmp .ge 39, 3) := by decide +kernel
theorem dX12_pairs_47 : decode cX12_pairs 47 = .ok (.aload_n 0, 1) := by decide +kernel
theorem dX12_pairs_48 : decode cX12_pairs 48 = .ok (.iload 5, 2) := by decide +kernel
theorem dX12_pairs_50 : decode cX12_pairs 50 = .ok (.iload 6, 2) := by decide +kernel
theorem dX12_pairs_52 : decode cX12_pairs 52 = .ok (.invokevirtual 382, 3) := by decide +kernel
theorem dX12_pairs_55 : decode cX12_pairs 55 = .ok (.ifCond .eq 22, 3) := by decide +kernel
theorem dX12_pairs_58 : decode cX12_pairs 58 = .ok (.iinc 2 1, 3) := by decide +kernel
theorem dX12_pairs_61 : decode cX12_pairs 61 = .ok (.iload_n 3, 1) := by decide +kernel
theorem dX12_pairs_62 : decode cX12_pairs 62 = .ok (.iconst 1, 1) := by decide +kernel
theorem dX12_pairs_63 : decode cX12_pairs 63 = .ok (.iload 5, 2) := by decide +kernel
theorem dX12_pairs_65 : decode cX12_pairs 65 = .ok (.ishl, 1) := by decide +kernel
theorem dX12_pairs_66 : decode cX12_pairs 66 = .ok (.ior, 1) := by decide +kernel
theorem dX12_pairs_67 : decode cX12_pairs 67 = .ok (.istore_n 3, 1) := by decide +kernel
theorem dX12_pairs_68 : decode cX12_pairs 68 = .ok (.iload 4, 2) := by decide +kernel
theorem dX12_pairs_70 : decode cX12_pairs 70 = .ok (.iconst 1, 1) := by decide +kernel
theorem dX12_pairs_71 : decode cX12_pairs 71 = .ok (.iload 6, 2) := by decide +kernel
theorem dX12_pairs_73 : decode cX12_pairs 73 = .ok (.ishl, 1) := by decide +kernel
theorem dX12_pairs_74 : decode cX12_pairs 74 = .ok (.ior, 1) := by decide +kernel
theorem dX12_pairs_75 : decode cX12_pairs 75 = .ok (.istore 4, 2) := by decide +kernel
theorem dX12_pairs_77 : decode cX12_pairs 77 = .ok (.iinc 6 1, 3) := by decide +kernel
theorem dX12_pairs_80 : decode cX12_pairs 80 = .ok (.goto (-42), 3) := by decide +kernel
theorem dX12_pairs_83 : decode cX12_pairs 83 = .ok (.iinc 5 1, 3) := by decide +kernel
theorem dX12_pairs_86 : decode cX12_pairs 86 = .ok (.goto (-60), 3) := by decide +kernel
theorem dX12_pairs_89 : decode cX12_pairs 89 = .ok (.iload_n 1, 1) := by decide +kernel
theorem dX12_pairs_90 : decode cX12_pairs 90 = .ok (.ifCond .ne 7, 3) := by decide +kernel
theorem dX12_pairs_93 : decode cX12_pairs 93 = .ok (.iload_n 2, 1) := by decide +kernel
theorem dX12_pairs_94 : decode cX12_pairs 94 = .ok (.goto 14, 3) := by decide +kernel
theorem dX12_pairs_97 : decode cX12_pairs 97 = .ok (.iload_n 1, 1) := by decide +kernel
theorem dX12_pairs_98 : decode cX12_pairs 98 = .ok (.iconst 1, 1) := by decide +kernel
theorem dX12_pairs_99 : decode cX12_pairs 99 = .ok (.if_icmp .ne 7, 3) := by decide +kernel
theorem dX12_pairs_102 : decode cX12_pairs 102 = .ok (.iload_n 3, 1) := by decide +kernel
theorem dX12_pairs_103 : decode cX12_pairs 103 = .ok (.goto 5, 3) := by decide +kernel
theorem dX12_pairs_106 : decode cX12_pairs 106 = .ok (.iload 4, 2) := by decide +kernel
theorem dX12_pairs_108 : decode cX12_pairs 108 = .ok (.ireturn, 1) := by decide +kernel
noncomputable def FX12_pairs (a0 : Nat) (p1 : Int32) : PP Int32 := bd (sI a0 0 (0 : Int32)) (fun (_ : Unit) => bd (FX12_within p1 (0 : Int32) (2 : Int32)) (fun x1 => if ((b2i x1)) = 0 then pu (-1 : Int32) else bd (it (fun (s2 : Int32 × Int32 × Int32 × Int32) => (bd (FX12_cloths a0) (fun x3 => if x3 ≤ s2.2.2.2 then pu (Sum.inr (s2.1, s2.2.1, s2.2.2.1)) else bd (it (fun (s4 : Int32 × Int32 × Int32 × Int32) => (bd (FX12_lines a0) (fun x5 => if x5 ≤ s4.2.2.2 then pu (Sum.inr (s4.1, s4.2.1, s4.2.2.1)) else bd (FX12_isTold a0 s2.2.2.2 s4.2.2.2) (fun x6 => bd (if ((b2i x6)) = 0 then pu (s4.1, s4.2.1, s4.2.2.1) else lt (s4.1 + (1 : Int32)) (fun y7 => lt (s4.2.1 ||| ((1 : Int32) <<< (s2.2.2.2 &&& 31))) (fun y8 => lt (s4.2.2.1 ||| ((1 : Int32) <<< (s4.2.2.2 &&& 31))) (fun y9 => pu (y7, y8, y9)))) : PP (Int32 × Int32 × Int32)) (fun (v10 : Int32 × Int32 × Int32) => lt (s4.2.2.2 + (1 : Int32)) (fun y11 => pu (Sum.inl (v10.1, v10.2.1, v10.2.2, y11)))))) : PP ((Int32 × Int32 × Int32 × Int32) ⊕ (Int32 × Int32 × Int32)))) FU (s2.1, s2.2.1, s2.2.2.1, (0 : Int32))) (fun (v12 : Int32 × Int32 × Int32) => lt (s2.2.2.2 + (1 : Int32)) (fun y13 => pu (Sum.inl (v12.1, v12.2.1, v12.2.2, y13))))) : PP ((Int32 × Int32 × Int32 × Int32) ⊕ (Int32 × Int32 × Int32)))) FU ((0 : Int32), (0 : Int32), (0 : Int32), (0 : Int32))) (fun (v14 : Int32 × Int32 × Int32) => bd (if p1 = 0 then pu v14.1 else if p1 = (1 : Int32) then pu v14.2.1 else pu v14.2.2 : PP (Int32)) (fun (v15 : Int32) => pu v15))))
set_option maxHeartbeats 4000000 in
set_option maxRecDepth 100000 in
theorem SX12_pairs {l : Launch} {K : KK} {n : Nat} {hn : 270 ≤ n} (a0 : Nat) (p1 : Int32) (h0 : ob a0 11) : CT l K n 6 mX12_pairs [.ref (K.2.1 + a0), .int p1] enI (FX12_pairs a0 p1) := by
  refine CT.of2 (lv2 := [(0, .ref (K.2.1 + a0)), (1, .int p1)]) (by decide) rfl hn (Nat.le_of_ble_eq_true rfl) rfl (rp_id ?_)
  unfold FX12_pairs
  refine rp_aload_n 0 dX12_pairs_0 rfl ?_
  refine rp_iconst (0 : Int32) dX12_pairs_1 (by decide) ?_
  refine rp_putI fi_X12_1 fp_X12_0 h0 rfl dX12_pairs_2 ?_
  refine rp_iload_n 1 dX12_pairs_5 rfl ?_
  refine rp_iconst (0 : Int32) dX12_pairs_6 (by decide) ?_
  refine rp_iconst (2 : Int32) dX12_pairs_7 (by decide) ?_
  refine rp_callSz [.int p1, .int (0 : Int32), .int (2 : Int32)] (SX12_within (hn := hn) p1 (0 : Int32) (2 : Int32)) csX12_within (mw (i := 1484) (by decide +kernel)) (by omega) rfl rfl (Nat.le_of_ble_eq_true rfl) dX12_pairs_8 (fun x1 => ?_)
  refine rp_if_ne 16 dX12_pairs_11 (by decide) ?_ ?_
  · refine rp_iconst (0 : Int32) dX12_pairs_16 (by decide) ?_
    refine rp_istore_n [(2, .int (0 : Int32)), (0, .ref (K.2.1 + a0)), (1, .int p1)] dX12_pairs_17 (by decide) rfl ?_
    refine rp_iconst (0 : Int32) dX12_pairs_18 (by decide) ?_
    refine rp_istore_n [(3, .int (0 : Int32)), (2, .int (0 : Int32)), (0, .ref (K.2.1 + a0)), (1, .int p1)] dX12_pairs_19 (by decide) rfl ?_
    refine rp_iconst (0 : Int32) dX12_pairs_20 (by decide) ?_
    refine rp_istore [(4, .int (0 : Int32)), (3, .int (0 : Int32)), (2, .int (0 : Int32)), (0, .ref (K.2.1 + a0)), (1, .int p1)] dX12_pairs_21 (by decide) rfl ?_
    refine rp_iconst (0 : Int32) dX12_pairs_23 (by decide) ?_
    refine rp_istore [(5, .int (0 : Int32)), (4, .int (0 : Int32)), (3, .int (0 : Int32)), (2, .int (0 : Int32)), (0, .ref (K.2.1 + a0)), (1, .int p1)] dX12_pairs_24 (by decide) rfl ?_
    refine rp_as ?_
    refine rp_join 89 (fun v14 => [(1, .int p1), (2, .int v14.1), (3, .int v14.2.1), (4, .int v14.2.2)]) (fun _ => []) (fun v14 => ?_) (fun hX26_0 => ?_)
    · refine rp_iload_n 0 dX12_pairs_89 rfl ?_
      refine rp_as ?_
      refine rp_join 108 (fun (v15 : Int32) => []) (fun v15 => [.int v15]) (fun v15 => ?_) (fun hJ108 => ?_)
      · exact rp_pu (rp_iret rfl dX12_pairs_108)
      refine rp_if_ne 97 dX12_pairs_90 (by decide) ?_ ?_
      · refine rp_iload_n 0 dX12_pairs_97 rfl ?_
        refine rp_iconst (1 : Int32) dX12_pairs_98 (by decide) ?_
        refine rp_icmp_ne 106 dX12_pairs_99 (by decide) ?_ ?_
        · refine rp_iload 3 dX12_pairs_106 rfl ?_
          exact rp_sub [] rfl (rp_pu (hJ108 v14.2.2))
        · refine rp_iload_n 2 dX12_pairs_102 rfl ?_
          refine rp_goto 108 dX12_pairs_103 (by decide) ?_
          exact rp_sub [] rfl (rp_pu (hJ108 v14.2.1))
      · refine rp_iload_n 1 dX12_pairs_93 rfl ?_
        refine rp_goto 108 dX12_pairs_94 (by decide) ?_
        exact rp_sub [] rfl (rp_pu (hJ108 v14.1))
    refine rp_sub [4, 5, 3, 2, 1, 0] rfl (rp_it (fun (s2 : Int32 × Int32 × Int32 × Int32) => [(0, .ref (K.2.1 + a0)), (1, .int p1), (2, .int s2.1), (3, .int s2.2.1), (4, .int s2.2.2.1), (5, .int s2.2.2.2)]) (fun N26 ih26 s2 => ?_) FU ((0 : Int32), (0 : Int32), (0 : Int32), (0 : Int32)))
    refine rp_iload 5 dX12_pairs_26 rfl ?_
    refine rp_aload_n 0 dX12_pairs_28 rfl ?_
    refine rp_callVi [] (SX12_cloths (hn := hn) a0 h0) cvX12_cloths (mw (i := 1306) (by decide +kernel)) (by omega) h0 (by decide) rfl rfl rfl (Nat.le_of_ble_eq_true rfl) dX12_pairs_29 (fun x3 => ?_)
    refine rp_icmp_ge 89 dX12_pairs_32 (by decide) ?_ ?_
    · exact rp_sub [1, 2, 3, 4] rfl (rp_puR (hX26_0 (s2.1, s2.2.1, s2.2.2.1)))
    · refine rp_iconst (0 : Int32) dX12_pairs_35 (by decide) ?_
      refine rp_istore [(6, .int (0 : Int32)), (0, .ref (K.2.1 + a0)), (1, .int p1), (2, .int s2.1), (3, .int s2.2.1), (4, .int s2.2.2.1), (5, .int s2.2.2.2)] dX12_pairs_36 (by decide) rfl ?_
      refine rp_as ?_
      refine rp_join 83 (fun v12 => [(0, .ref (K.2.1 + a0)), (1, .int p1), (2, .int v12.1), (3, .int v12.2.1), (4, .int v12.2.2), (5, .int s2.2.2.2)]) (fun _ => []) (fun v12 => ?_) (fun hX38_0 => ?_)
      · refine rp_iinc (fun y13 => [(5, .int y13), (0, .ref (K.2.1 + a0)), (1, .int p1), (2, .int v12.1), (3, .int v12.2.1), (4, .int v12.2.2)]) 5 dX12_pairs_83 rfl (by rfl) (by decide) (fun y13 => rfl) (fun y13 => ?_)
        refine rp_goto 26 dX12_pairs_86 (by decide) ?_
        exact rp_sub [1, 2, 3, 4, 5, 0] rfl (ih26 (v12.1, v12.2.1, v12.2.2, y13))
      refine rp_sub [1, 2, 3, 4, 5, 6, 0] rfl (rp_it (fun (s4 : Int32 × Int32 × Int32 × Int32) => [(0, .ref (K.2.1 + a0)), (1, .int p1), (2, .int s4.1), (3, .int s4.2.1), (4, .int s4.2.2.1), (5, .int s2.2.2.2), (6, .int s4.2.2.2)]) (fun N38 ih38 s4 => ?_) FU (s2.1, s2.2.1, s2.2.2.1, (0 : Int32)))
      refine rp_iload 6 dX12_pairs_38 rfl ?_
      refine rp_aload_n 0 dX12_pairs_40 rfl ?_
      refine rp_callVi [] (SX12_lines (hn := hn) a0 h0) cvX12_lines (mw (i := 1551) (by decide +kernel)) (by omega) h0 (by decide) rfl rfl rfl (Nat.le_of_ble_eq_true rfl) dX12_pairs_41 (fun x5 => ?_)
      refine rp_icmp_ge 83 dX12_pairs_44 (by decide) ?_ ?_
      · exact rp_sub [0, 1, 2, 3, 4, 5] rfl (rp_puR (hX38_0 (s4.1, s4.2.1, s4.2.2.1)))
      · refine rp_aload_n 0 dX12_pairs_47 rfl ?_
        refine rp_iload 5 dX12_pairs_48 rfl ?_
        refine rp_iload 6 dX12_pairs_50 rfl ?_
        refine rp_callVz [.int s2.2.2.2, .int s4.2.2.2] (SX12_isTold (hn := hn) a0 s2.2.2.2 s4.2.2.2 h0) cvX12_isTold (mw (i := 1737) (by decide +kernel)) (by omega) h0 (by decide) rfl rfl rfl (Nat.le_of_ble_eq_true rfl) dX12_pairs_52 (fun x6 => ?_)
        refine rp_as ?_
        refine rp_join 77 (fun (v10 : Int32 × Int32 × Int32) => [(0, .ref (K.2.1 + a0)), (1, .int p1), (2, .int v10.1), (3, .int v10.2.1), (4, .int v10.2.2), (5, .int s2.2.2.2), (6, .int s4.2.2.2)]) (fun v10 => []) (fun v10 => ?_) (fun hJ77 => ?_)
        · refine rp_iinc (fun y11 => [(6, .int y11), (0, .ref (K.2.1 + a0)), (1, .int p1), (2, .int v10.1), (3, .int v10.2.1), (4, .int v10.2.2), (5, .int s2.2.2.2)]) 6 dX12_pairs_77 rfl (by rfl) (by decide) (fun y11 => rfl) (fun y11 => ?_)
          refine rp_goto 38 dX12_pairs_80 (by decide) ?_
          exact rp_sub [1, 2, 3, 4, 5, 6, 0] rfl (ih38 (v10.1, v10.2.1, v10.2.2, y11))
        refine rp_if_eq 77 dX12_pairs_55 (by decide) ?_ ?_
        · exact rp_sub [0, 1, 2, 3, 4, 5, 6] rfl (rp_pu (hJ77 (s4.1, s4.2.1, s4.2.2.1)))
        · refine rp_iinc (fun y7 => [(2, .int y7), (0, .ref (K.2.1 + a0)), (1, .int p1), (3, .int s4.2.1), (4, .int s4.2.2.1), (5, .int s2.2.2.2), (6, .int s4.2.2.2)]) 2 dX12_pairs_58 rfl (by rfl) (by decide) (fun y7 => rfl) (fun y7 => ?_)
          refine rp_iload_n 3 dX12_pairs_61 rfl ?_
          refine rp_iconst (1 : Int32) dX12_pairs_62 (by decide) ?_
          refine rp_iload 5 dX12_pairs_63 rfl ?_
          refine rp_ishl dX12_pairs_65 ?_
          refine rp_ior dX12_pairs_66 ?_
          refine rp_lti (fun y8 => ?_)
          refine rp_istore_n [(3, .int y8), (2, .int y7), (0, .ref (K.2.1 + a0)), (1, .int p1), (4, .int s4.2.2.1), (5, .int s2.2.2.2), (6, .int s4.2.2.2)] dX12_pairs_67 (by decide) rfl ?_
          refine rp_iload 4 dX12_pairs_68 rfl ?_
          refine rp_iconst (1 : Int32) dX12_pairs_70 (by decide) ?_
          refine rp_iload 6 dX12_pairs_71 rfl ?_
          refine rp_ishl dX12_pairs_73 ?_
          refine rp_ior dX12_pairs_74 ?_
          refine rp_lti (fun y9 => ?_)
          refine rp_istore [(4, .int y9), (3, .int y8), (2, .int y7), (0, .ref (K.2.1 + a0)), (1, .int p1), (5, .int s2.2.2.2), (6, .int s4.2.2.2)] dX12_pairs_75 (by decide) rfl ?_
          exact rp_sub [3, 4, 2, 1, 0, 5, 6] rfl (rp_pu (hJ77 (y7, y8, y9)))
  · refine rp_iconst (-1 : Int32) dX12_pairs_14 (by decide) ?_
    exact rp_pu (rp_iret rfl dX12_pairs_15)

theorem dX12_look_0 : decode cX12_look 0 = .ok (.aload_n 0, 1) := by decide +kernel
theorem dX12_look_1 : decode cX12_look 1 = .ok (.iconst 0, 1) := by decide +kernel
theorem dX12_look_2 : decode cX12_look 2 = .ok (.putfield 1, 3) := by decide +kernel
theorem dX12_look_5 : decode cX12_look 5 = .ok (.iload_n 1, 1) := by decide +kernel
theorem dX12_look_6 : decode cX12_look 6 = .ok (.iconst 0, 1) := by decide +kernel
theorem dX12_look_7 : decode cX12_look 7 = .ok (.bipush 12, 2) := by decide +kernel
theorem dX12_look_9 : decode cX12_look 9 = .ok (.invokestatic 201, 3) := by decide +kernel
theorem dX12_look_12 : decode cX12_look 12 = .ok (.ifCond .ne 5, 3) := by decide +kernel
theorem dX12_look_15 : decode cX12_look 15 = .ok (.iconst (-1), 1) := by decide +kernel
theorem dX12_look_16 : decode cX12_look 16 = .ok (.ireturn, 1) := by decide +kernel
theorem dX12_look_17 : decode cX12_look 17 = .ok (.iconst 0, 1) := by decide +kernel
theorem dX12_look_18 : decode cX12_look 18 = .ok (.istore_n 2, 1) := by decide +kernel
theorem dX12_look_19 : decode cX12_look 19 = .ok (.iload_n 2, 1) := by decide +kernel
theorem dX12_look_20 : decode cX12_look 20 = .ok (.bipush 20, 2) := by decide +kernel
theorem dX12_look_22 : decode cX12_look 22 = .ok (.if_icmp .ge 16, 3) := by decide +kernel
theorem dX12_look_25 : decode cX12_look 25 = .ok (.aload_n 0, 1) := by decide +kernel
theorem dX12_look_26 : decode cX12_look 26 = .ok (.getfield 126, 3) := by decide +kernel
theorem dX12_look_29 : decode cX12_look 29 = .ok (.iload_n 2, 1) := by decide +kernel
theorem dX12_look_30 : decode cX12_look 30 = .ok (.iconst 0, 1) := by decide +kernel
theorem dX12_look_31 : decode cX12_look 31 = .ok (.iastore, 1) := by decide +kernel
theorem dX12_look_32 : decode cX12_look 32 = .ok (.iinc 2 1, 3) := by decide +kernel
theorem dX12_look_35 : decode cX12_look 35 = .ok (.goto (-16), 3) := by decide +kernel
theorem dX12_look_38 : decode cX12_look 38 = .ok (.iconst 0, 1) := by decide +kernel
theorem dX12_look_39 : decode cX12_look 39 = .ok (.istore_n 2, 1) := by decide +kernel
theorem dX12_look_40 : decode cX12_look 40 = .ok (.iconst 0, 1) := by decide +kernel
theorem dX12_look_41 : decode cX12_look 41 = .ok (.istore_n 3, 1) := by decide +kernel
theorem dX12_look_42 : decode cX12_look 42 = .ok (.iload_n 3, 1) := by decide +kernel
theorem dX12_look_43 : decode cX12_look 43 = .ok (.aload_n 0, 1) := by decide +kernel
theorem dX12_look_44 : decode cX12_look 44 = .ok (.invokevirtual 269, 3) := by decide +kernel
theorem dX12_look_47 : decode cX12_look 47 = .ok (.if_icmp .ge 91, 3) := by decide +kernel
theorem dX12_look_50 : decode cX12_look 50 = .ok (.iconst 0, 1) := by decide +kernel
theorem dX12_look_51 : decode cX12_look 51 = .ok (.istore 4, 2) := by decide +kernel
theorem dX12_look_53 : decode cX12_look 53 = .ok (.iload 4, 2) := by decide +kernel
theorem dX12_look_55 : decode cX12_look 55 = .ok (.aload_n 0, 1) := by decide +kernel
theorem dX12_look_56 : decode cX12_look 56 = .ok (.invokevirtual 285, 3) := by decide +kernel
theorem dX12_look_59 : decode cX12_look 59 = .ok (.if_icmp .ge 73, 3) := by decide +kernel
theorem dX12_look_62 : decode cX12_look 62 = .ok (.aload_n 0, 1) := by decide +kernel
theorem dX12_look_63 : decode cX12_look 63 = .ok (.iload_n 3, 1) := by decide +kernel
theorem dX12_look_64 : decode cX12_look 64 = .ok (.iload 4, 2) := by decide +kernel
theorem dX12_look_66 : decode cX12_look 66 = .ok (.invokevirtual 382, 3) := by decide +kernel
theorem dX12_look_69 : decode cX12_look 69 = .ok (.ifCond .eq 57, 3) := by decide +kernel
theorem dX12_look_72 : decode cX12_look 72 = .ok (.iinc 2 1, 3) := by decide +kernel
theorem dX12_look_75 : decode cX12_look 75 = .ok (.aload_n 0, 1) := by decide +kernel
theorem dX12_look_76 : decode cX12_look 76 = .ok (.iload_n 3, 1) := by decide +kernel
theorem dX12_look_77 : decode cX12_look 77 = .ok (.iload 4, 2) := by decide +kernel
theorem dX12_look_79 : decode cX12_look 79 = .ok (.iload_n 1, 1) := by decide +kernel
theorem dX12_look_80 : decode cX12_look 80 = .ok (.invokevirtual 379, 3) := by decide +kernel
theorem dX12_look_83 : decode cX12_look 83 = .ok (.iconst 0, 1) := by decide +kernel
theorem dX12_look_84 : decode cX12_look 84 = .ok (.istore 5, 2) := by decide +kernel
theorem dX12_look_86 : decode cX12_look 86 = .ok (.iload 5, 2) := by decide +kernel
theorem dX12_look_88 : decode cX12_look 88 = .ok (.aload_n 0, 1) := by decide +kernel
theorem dX12_look_89 : decode cX12_look 89 = .ok (.invokevirtual 288, 3) := by decide +kernel
theorem dX12_look_92 : decode cX12_look 92 = .ok (.if_icmp .ge 34, 3) := by decide +kernel
theorem dX12_look_95 : decode cX12_look 95 = .ok (.aload_n 0, 1) := by decide +kernel
theorem dX12_look_96 : decode cX12_look 96 = .ok (.getfield 126, 3) := by decide +kernel
theorem dX12_look_99 : decode cX12_look 99 = .ok (.iconst 5, 1) := by decide +kernel
theorem dX12_look_100 : decode cX12_look 100 = .ok (.iload 5, 2) := by decide +kernel
theorem dX12_look_102 : decode cX12_look 102 = .ok (.imul, 1) := by decide +kernel
theorem dX12_look_103 : decode cX12_look 103 = .ok (.iconst 1, 1) := by decide +kernel
theorem dX12_look_104 : decode cX12_look 104 = .ok (.iadd, 1) := by decide +kernel
theorem dX12_look_105 : decode cX12_look 105 = .ok (.aload_n 0, 1) := by decide +kernel
theorem dX12_look_106 : decode cX12_look 106 = .ok (.sipush 882, 3) := by decide +kernel
theorem dX12_look_109 : decode cX12_look 109 = .ok (.iload 5, 2) := by decide +kernel
theorem dX12_look_111 : decode cX12_look 111 = .ok (.invokevirtual 307, 3) := by decide +kernel
theorem dX12_look_114 : decode cX12_look 114 = .ok (.iadd, 1) := by decide +kernel
theorem dX12_look_115 : decode cX12_look 115 = .ok (.dup2, 1) := by decide +kernel
theorem dX12_look_116 : decode cX12_look 116 = .ok (.iaload, 1) := by decide +kernel
theorem dX12_look_117 : decode cX12_look 117 = .ok (.iconst 1, 1) := by decide +kernel
theorem dX12_look_118 : decode cX12_look 118 = .ok (.iadd, 1) := by decide +kernel
theorem dX12_look_119 : decode cX12_look 119 = .ok (.iastore, 1) := by decide +kernel
theorem dX12_look_120 : decode cX12_look 120 = .ok (.iinc 5 1, 3) := by decide +kernel
theorem dX12_look_123 : decode cX12_look 123 = .ok (.goto (-37), 3) := by decide +kernel
theorem dX12_look_126 : decode cX12_look 126 = .ok (.iinc 4 1, 3) := by decide +kernel
theorem dX12_look_129 : decode cX12_look 129 = .ok (.goto (-76), 3) := by decide +kernel
theorem dX12_look_132 : decode cX12_look 132 = .ok (.iinc 3 1, 3) := by decide +kernel
theorem dX12_look_135 : decode cX12_look 135 = .ok (.goto (-93), 3) := by decide +kernel
theorem dX12_look_138 : decode cX12_look 138 = .ok (.iconst (-1), 1) := by decide +kernel
theorem dX12_look_139 : decode cX12_look 139 = .ok (.istore_n 3, 1) := by decide +kernel
theorem dX12_look_140 : decode cX12_look 140 = .ok (.iload_n 2, 1) := by decide +kernel
theorem dX12_look_141 : decode cX12_look 141 = .ok (.istore 4, 2) := by decide +kernel
theorem dX12_look_143 : decode cX12_look 143 = .ok (.iconst 0, 1) := by decide +kernel
theorem dX12_look_144 : decode cX12_look 144 = .ok (.istore 5, 2) := by decide +kernel
theorem dX12_look_146 : decode cX12_look 146 = .ok (.iload 5, 2) := by decide +kernel
theorem dX12_look_148 : decode cX12_look 148 = .ok (.aload_n 0, 1) := by decide +kernel
theorem dX12_look_149 : decode cX12_look 149 = .ok (.invokevirtual 288, 3) := by decide +kernel
theorem dX12_look_152 : decode cX12_look 152 = .ok (.if_icmp .ge 93, 3) := by decide +kernel
theorem dX12_look_155 : decode cX12_look 155 = .ok (.iconst 0, 1) := by decide +kernel
theorem dX12_look_156 : decode cX12_look 156 = .ok (.istore 6, 2) := by decide +kernel
theorem dX12_look_158 : decode cX12_look 158 = .ok (.iconst 0, 1) := by decide +kernel
theorem dX12_look_159 : decode cX12_look 159 = .ok (.istore 7, 2) := by decide +kernel
theorem dX12_look_161 : decode cX12_look 161 = .ok (.iload 7, 2) := by decide +kernel
theorem dX12_look_163 : decode cX12_look 163 = .ok (.iconst 5, 1) := by decide +kernel
theorem dX12_look_164 : decode cX12_look 164 = .ok (.if_icmp .ge 45, 3) := by decide +kernel
theorem dX12_look_167 : decode cX12_look 167 = .ok (.aload_n 0, 1) := by decide +kernel
theorem dX12_look_168 : decode cX12_look 168 = .ok (.getfield 126, 3) := by decide +kernel
theorem dX12_look_171 : decode cX12_look 171 = .ok (.iconst 5, 1) := by decide +kernel
theorem dX12_look_172 : decode cX12_look 172 = .ok (.iload 5, 2) := by decide +kernel
theorem dX12_look_174 : decode cX12_look 174 = .ok (.imul, 1) := by decide +kernel
theorem dX12_look_175 : decode cX12_look 175 = .ok (.iload 7, 2) := by decide +kernel
theorem dX12_look_177 : decode cX12_look 177 = .ok (.iadd, 1) := by decide +kernel
theorem dX12_look_178 : decode cX12_look 178 = .ok (.iaload, 1) := by decide +kernel
theorem dX12_look_179 : decode cX12_look 179 = .ok (.iload 6, 2) := by decide +kernel
theorem dX12_look_181 : decode cX12_look 181 = .ok (.if_icmp .le 18, 3) := by decide +kernel
theorem dX12_look_184 : decode cX12_look 184 = .ok (.aload_n 0, 1) := by decide +kernel
theorem dX12_look_185 : decode cX12_look 185 = .ok (.getfield 126, 3) := by decide +kernel
theorem dX12_look_188 : decode cX12_look 188 = .ok (.iconst 5, 1) := by decide +kernel
theorem dX12_look_189 : decode cX12_look 189 = .ok (.iload 5, 2) := by decide +kernel
theorem dX12_look_191 : decode cX12_look 191 = .ok (.imul, 1) := by decide +kernel
theorem dX12_look_192 : decode cX12_look 192 = .ok (.iload 7, 2) := by decide +kernel
theorem dX12_look_194 : decode cX12_look 194 = .ok (.iadd, 1) := by decide +kernel
theorem dX12_look_195 : decode cX12_look 195 = .ok (.iaload, 1) := by decide +kernel
theorem dX12_look_196 : decode cX12_look 196 = .ok (.goto 5, 3) := by decide +kernel
theorem dX12_look_199 : decode cX12_look 199 = .ok (.iload 6, 2) := by decide +kernel
theorem dX12_look_201 : decode cX12_look 201 = .ok (.istore 6, 2) := by decide +kernel
theorem dX12_look_203 : decode cX12_look 203 = .ok (.iinc 7 1, 3) := by decide +kernel
theorem dX12_look_206 : decode cX12_look 206 = .ok (.goto (-45), 3) := by decide +kernel
theorem dX12_look_209 : decode cX12_look 209 = .ok (.iload 6, 2) := by decide +kernel
theorem dX12_look_211 : decode cX12_look 211 = .ok (.iload 4, 2) := by decide +kernel
theorem dX12_look_213 : decode cX12_look 213 = .ok (.if_icmp .ge 8, 3) := by decide +kernel
theorem dX12_look_216 : decode cX12_look 216 = .ok (.iload 5, 2) := by decide +kernel
theorem dX12_look_218 : decode cX12_look 218 = .ok (.goto 4, 3) := by decide +kernel
theorem dX12_look_221 : decode cX12_look 221 = .ok (.iload_n 3, 1) := by decide +kernel
theorem dX12_look_222 : decode cX12_look 222 = .ok (.istore_n 3, 1) := by decide +kernel
theorem dX12_look_223 : decode cX12_look 223 = .ok (.iload 6, 2) := by decide +kernel
theorem dX12_look_225 : decode cX12_look 225 = .ok (.iload 4, 2) := by decide +kernel
theorem dX12_look_227 : decode cX12_look 227 = .ok (.if_icmp .ge 8, 3) := by decide +kernel
theorem dX12_look_230 : decode cX12_look 230 = .ok (.iload 6, 2) := by decide +kernel
theorem dX12_look_232 : decode cX12_look 232 = .ok (.goto 5, 3) := by decide +kernel
theorem dX12_look_235 : decode cX12_look 235 = .ok (.iload 4, 2) := by decide +kernel
theorem dX12_look_237 : decode cX12_look 237 = .ok (.istore 4, 2) := by decide +kernel
theorem dX12_look_239 : decode cX12_look 239 = .ok (.iinc 5 1, 3) := by decide +kernel
theorem dX12_look_242 : decode cX12_look 242 = .ok (.goto (-96), 3) := by decide +kernel
theorem dX12_look_245 : decode cX12_look 245 = .ok (.iload_n 3, 1) := by decide +kernel
theorem dX12_look_246 : decode cX12_look 246 = .ok (.ireturn, 1) := by decide +kernel
noncomputable def FX12_look (a0 : Nat) (p1 : Int32) : PP Int32 := bd (sI a0 0 (0 : Int32)) (fun (_ : Unit) => bd (FX12_within p1 (0 : Int32) (12 : Int32)) (fun x1 => if ((b2i x1)) = 0 then pu (-1 : Int32) else bd (it (fun (s2 : Int32) => (if (20 : Int32) ≤ s2 then pu (Sum.inr ()) else bd (uI (rf a0 29) 20 s2 (0 : Int32)) (fun (_ : Unit) => lt (s2 + (1 : Int32)) (fun y3 => pu (Sum.inl y3))) : PP ((Int32) ⊕ (Unit)))) FU (0 : Int32)) (fun (v4 : Unit) => bd (it (fun (s5 : Int32 × Int32) => (bd (FX12_cloths a0) (fun x6 => if x6 ≤ s5.2 then pu (Sum.inr s5.1) else bd (it (fun (s7 : Int32 × Int32) => (bd (FX12_lines a0) (fun x8 => if x8 ≤ s7.2 then pu (Sum.inr s7.1) else bd (FX12_isTold a0 s5.2 s7.2) (fun x9 => bd (if ((b2i x9)) = 0 then pu s7.1 else lt (s7.1 + (1 : Int32)) (fun y10 => bd (FX12_hungFor a0 s5.2 s7.2 p1) (fun (_ : Unit) => bd (it (fun (s12 : Int32) => (bd (FX12_places a0) (fun x13 => if x13 ≤ s12 then pu (Sum.inr ()) else bd (FX12_weatherOf a0 (882 : Int32) s12) (fun x14 => bd (aI (rf a0 29) 20 ((((5 : Int32) * s12) + (1 : Int32)) + x14)) (fun x15 => bd (uI (rf a0 29) 20 ((((5 : Int32) * s12) + (1 : Int32)) + x14) (x15 + (1 : Int32))) (fun (_ : Unit) => lt (s12 + (1 : Int32)) (fun y16 => pu (Sum.inl y16)))))) : PP ((Int32) ⊕ (Unit)))) FU (0 : Int32)) (fun (v17 : Unit) => pu y10))) : PP (Int32)) (fun (v18 : Int32) => lt (s7.2 + (1 : Int32)) (fun y19 => pu (Sum.inl (v18, y19)))))) : PP ((Int32 × Int32) ⊕ (Int32)))) FU (s5.1, (0 : Int32))) (fun (v20 : Int32) => lt (s5.2 + (1 : Int32)) (fun y21 => pu (Sum.inl (v20, y21))))) : PP ((Int32 × Int32) ⊕ (Int32)))) FU ((0 : Int32), (0 : Int32))) (fun (v22 : Int32) => bd (it (fun (s23 : Int32 × Int32 × Int32) => (bd (FX12_places a0) (fun x24 => if x24 ≤ s23.2.2 then pu (Sum.inr s23.1) else bd (it (fun (s25 : Int32 × Int32) => (if (5 : Int32) ≤ s25.2 then pu (Sum.inr s25.1) else bd (aI (rf a0 29) 20 (((5 : Int32) * s23.2.2) + s25.2)) (fun x26 => bd (if x26 ≤ s25.1 then pu s25.1 else bd (aI (rf a0 29) 20 (((5 : Int32) * s23.2.2) + s25.2)) (fun x27 => pu x27) : PP (Int32)) (fun (v28 : Int32) => lt (s25.2 + (1 : Int32)) (fun y29 => pu (Sum.inl (v28, y29))))) : PP ((Int32 × Int32) ⊕ (Int32)))) FU ((0 : Int32), (0 : Int32))) (fun (v30 : Int32) => bd (if s23.2.1 ≤ v30 then pu s23.1 else pu s23.2.2 : PP (Int32)) (fun (v31 : Int32) => bd (if s23.2.1 ≤ v30 then pu s23.2.1 else pu v30 : PP (Int32)) (fun (v32 : Int32) => lt (s23.2.2 + (1 : Int32)) (fun y33 => pu (Sum.inl (v31, v32, y33))))))) : PP ((Int32 × Int32 × Int32) ⊕ (Int32)))) FU ((-1 : Int32), v22, (0 : Int32))) (fun (v34 : Int32) => pu v34)))))
set_option maxHeartbeats 4000000 in
set_option maxRecDepth 100000 in
theorem SX12_look {l : Launch} {K : KK} {n : Nat} {hn : 270 ≤ n} (a0 : Nat) (p1 : Int32) (h0 : ob a0 11) : CT l K n 6 mX12_look [.ref (K.2.1 + a0), .int p1] enI (FX12_look a0 p1) := by
  refine CT.of2 (lv2 := [(0, .ref (K.2.1 + a0)), (1, .int p1)]) (by decide) rfl hn (Nat.le_of_ble_eq_true rfl) rfl (rp_id ?_)
  unfold FX12_look
  refine rp_aload_n 0 dX12_look_0 rfl ?_
  refine rp_iconst (0 : Int32) dX12_look_1 (by decide) ?_
  refine rp_putI fi_X12_1 fp_X12_0 h0 rfl dX12_look_2 ?_
  refine rp_iload_n 1 dX12_look_5 rfl ?_
  refine rp_iconst (0 : Int32) dX12_look_6 (by decide) ?_
  refine rp_bipush (12 : Int32) dX12_look_7 (by decide) ?_
  refine rp_callSz [.int p1, .int (0 : Int32), .int (12 : Int32)] (SX12_within (hn := hn) p1 (0 : Int32) (12 : Int32)) csX12_within (mw (i := 1484) (by decide +kernel)) (by omega) rfl rfl (Nat.le_of_ble_eq_true rfl) dX12_look_9 (fun x1 => ?_)
  refine rp_if_ne 17 dX12_look_12 (by decide) ?_ ?_
  · refine rp_iconst (0 : Int32) dX12_look_17 (by decide) ?_
    refine rp_istore_n [(2, .int (0 : Int32)), (0, .ref (K.2.1 + a0)), (1, .int p1)] dX12_look_18 (by decide) rfl ?_
    refine rp_as ?_
    refine rp_join 38 (fun v4 => [(0, .ref (K.2.1 + a0)), (1, .int p1)]) (fun _ => []) (fun v4 => ?_) (fun hX19_0 => ?_)
    · refine rp_iconst (0 : Int32) dX12_look_38 (by decide) ?_
      refine rp_istore_n [(2, .int (0 : Int32)), (0, .ref (K.2.1 + a0)), (1, .int p1)] dX12_look_39 (by decide) rfl ?_
      refine rp_iconst (0 : Int32) dX12_look_40 (by decide) ?_
      refine rp_istore_n [(3, .int (0 : Int32)), (2, .int (0 : Int32)), (0, .ref (K.2.1 + a0)), (1, .int p1)] dX12_look_41 (by decide) rfl ?_
      refine rp_as ?_
      refine rp_join 138 (fun v22 => [(0, .ref (K.2.1 + a0)), (2, .int v22)]) (fun _ => []) (fun v22 => ?_) (fun hX42_0 => ?_)
      · refine rp_iconst (-1 : Int32) dX12_look_138 (by decide) ?_
        refine rp_istore_n [(3, .int (-1 : Int32)), (0, .ref (K.2.1 + a0)), (2, .int v22)] dX12_look_139 (by decide) rfl ?_
        refine rp_iload_n 2 dX12_look_140 rfl ?_
        refine rp_istore [(4, .int v22), (3, .int (-1 : Int32)), (0, .ref (K.2.1 + a0)), (2, .int v22)] dX12_look_141 (by decide) rfl ?_
        refine rp_iconst (0 : Int32) dX12_look_143 (by decide) ?_
        refine rp_istore [(5, .int (0 : Int32)), (4, .int v22), (3, .int (-1 : Int32)), (0, .ref (K.2.1 + a0)), (2, .int v22)] dX12_look_144 (by decide) rfl ?_
        refine rp_as ?_
        refine rp_join 245 (fun v34 => [(3, .int v34)]) (fun _ => []) (fun v34 => ?_) (fun hX146_0 => ?_)
        · refine rp_iload_n 0 dX12_look_245 rfl ?_
          exact rp_pu (rp_iret rfl dX12_look_246)
        refine rp_sub [3, 2, 1, 0] rfl (rp_it (fun (s23 : Int32 × Int32 × Int32) => [(0, .ref (K.2.1 + a0)), (3, .int s23.1), (4, .int s23.2.1), (5, .int s23.2.2)]) (fun N146 ih146 s23 => ?_) FU ((-1 : Int32), v22, (0 : Int32)))
        refine rp_iload 3 dX12_look_146 rfl ?_
        refine rp_aload_n 0 dX12_look_148 rfl ?_
        refine rp_callVi [] (SX12_places (hn := hn) a0 h0) cvX12_places (mw (i := 1583) (by decide +kernel)) (by omega) h0 (by decide) rfl rfl rfl (Nat.le_of_ble_eq_true rfl) dX12_look_149 (fun x24 => ?_)
        refine rp_icmp_ge 245 dX12_look_152 (by decide) ?_ ?_
        · exact rp_sub [1] rfl (rp_puR (hX146_0 s23.1))
        · refine rp_iconst (0 : Int32) dX12_look_155 (by decide) ?_
          refine rp_istore [(6, .int (0 : Int32)), (0, .ref (K.2.1 + a0)), (3, .int s23.1), (4, .int s23.2.1), (5, .int s23.2.2)] dX12_look_156 (by decide) rfl ?_
          refine rp_iconst (0 : Int32) dX12_look_158 (by decide) ?_
          refine rp_istore [(7, .int (0 : Int32)), (6, .int (0 : Int32)), (0, .ref (K.2.1 + a0)), (3, .int s23.1), (4, .int s23.2.1), (5, .int s23.2.2)] dX12_look_159 (by decide) rfl ?_
          refine rp_as ?_
          refine rp_join 209 (fun v30 => [(0, .ref (K.2.1 + a0)), (3, .int s23.1), (4, .int s23.2.1), (5, .int s23.2.2), (6, .int v30)]) (fun _ => []) (fun v30 => ?_) (fun hX161_0 => ?_)
          · refine rp_iload 4 dX12_look_209 rfl ?_
            refine rp_iload 2 dX12_look_211 rfl ?_
            refine rp_as ?_
            refine rp_join 222 (fun (v31 : Int32) => [(0, .ref (K.2.1 + a0)), (4, .int s23.2.1), (5, .int s23.2.2), (6, .int v30)]) (fun v31 => [.int v31]) (fun v31 => ?_) (fun hJ222 => ?_)
            · refine rp_istore_n [(3, .int v31), (0, .ref (K.2.1 + a0)), (4, .int s23.2.1), (5, .int s23.2.2), (6, .int v30)] dX12_look_222 (by decide) rfl ?_
              refine rp_iload 4 dX12_look_223 rfl ?_
              refine rp_iload 2 dX12_look_225 rfl ?_
              refine rp_as ?_
              refine rp_join 237 (fun (v32 : Int32) => [(0, .ref (K.2.1 + a0)), (3, .int v31), (5, .int s23.2.2)]) (fun v32 => [.int v32]) (fun v32 => ?_) (fun hJ237 => ?_)
              · refine rp_istore [(4, .int v32), (0, .ref (K.2.1 + a0)), (3, .int v31), (5, .int s23.2.2)] dX12_look_237 (by decide) rfl ?_
                refine rp_iinc (fun y33 => [(5, .int y33), (4, .int v32), (0, .ref (K.2.1 + a0)), (3, .int v31)]) 3 dX12_look_239 rfl (by rfl) (by decide) (fun y33 => rfl) (fun y33 => ?_)
                refine rp_goto 146 dX12_look_242 (by decide) ?_
                exact rp_sub [2, 3, 1, 0] rfl (ih146 (v31, v32, y33))
              refine rp_icmp_ge 235 dX12_look_227 (by decide) ?_ ?_
              · refine rp_iload 2 dX12_look_235 rfl ?_
                exact rp_sub [1, 0, 3] rfl (rp_pu (hJ237 s23.2.1))
              · refine rp_iload 4 dX12_look_230 rfl ?_
                refine rp_goto 237 dX12_look_232 (by decide) ?_
                exact rp_sub [1, 0, 3] rfl (rp_pu (hJ237 v30))
            refine rp_icmp_ge 221 dX12_look_213 (by decide) ?_ ?_
            · refine rp_iload_n 1 dX12_look_221 rfl ?_
              exact rp_sub [0, 2, 3, 4] rfl (rp_pu (hJ222 s23.1))
            · refine rp_iload 3 dX12_look_216 rfl ?_
              refine rp_goto 222 dX12_look_218 (by decide) ?_
              exact rp_sub [0, 2, 3, 4] rfl (rp_pu (hJ222 s23.2.2))
          refine rp_sub [2, 3, 4, 5, 1, 0] rfl (rp_it (fun (s25 : Int32 × Int32) => [(0, .ref (K.2.1 + a0)), (3, .int s23.1), (4, .int s23.2.1), (5, .int s23.2.2), (6, .int s25.1), (7, .int s25.2)]) (fun N161 ih161 s25 => ?_) FU ((0 : Int32), (0 : Int32)))
          refine rp_iload 5 dX12_look_161 rfl ?_
          refine rp_iconst (5 : Int32) dX12_look_163 (by decide) ?_
          refine rp_icmp_ge 209 dX12_look_164 (by decide) ?_ ?_
          · exact rp_sub [0, 1, 2, 3, 4] rfl (rp_puR (hX161_0 s25.1))
          · refine rp_aload_n 0 dX12_look_167 rfl ?_
            refine rp_getR fi_X12_126 h0 rfl dX12_look_168 ?_
            refine rp_iconst (5 : Int32) dX12_look_171 (by decide) ?_
            refine rp_iload 3 dX12_look_172 rfl ?_
            refine rp_imul dX12_look_174 ?_
            refine rp_iload 5 dX12_look_175 rfl ?_
            refine rp_iadd dX12_look_177 ?_
            refine rp_iald (tX12_29 h0) dX12_look_178 (fun x26 => ?_)
            refine rp_iload 4 dX12_look_179 rfl ?_
            refine rp_as ?_
            refine rp_join 201 (fun (v28 : Int32) => [(0, .ref (K.2.1 + a0)), (3, .int s23.1), (4, .int s23.2.1), (5, .int s23.2.2), (7, .int s25.2)]) (fun v28 => [.int v28]) (fun v28 => ?_) (fun hJ201 => ?_)
            · refine rp_istore [(6, .int v28), (0, .ref (K.2.1 + a0)), (3, .int s23.1), (4, .int s23.2.1), (5, .int s23.2.2), (7, .int s25.2)] dX12_look_201 (by decide) rfl ?_
              refine rp_iinc (fun y29 => [(7, .int y29), (6, .int v28), (0, .ref (K.2.1 + a0)), (3, .int s23.1), (4, .int s23.2.1), (5, .int s23.2.2)]) 5 dX12_look_203 rfl (by rfl) (by decide) (fun y29 => rfl) (fun y29 => ?_)
              refine rp_goto 161 dX12_look_206 (by decide) ?_
              exact rp_sub [2, 3, 4, 5, 1, 0] rfl (ih161 (v28, y29))
            refine rp_icmp_le 199 dX12_look_181 (by decide) ?_ ?_
            · refine rp_iload 4 dX12_look_199 rfl ?_
              exact rp_sub [0, 1, 2, 3, 5] rfl (rp_pu (hJ201 s25.1))
            · refine rp_aload_n 0 dX12_look_184 rfl ?_
              refine rp_getR fi_X12_126 h0 rfl dX12_look_185 ?_
              refine rp_iconst (5 : Int32) dX12_look_188 (by decide) ?_
              refine rp_iload 3 dX12_look_189 rfl ?_
              refine rp_imul dX12_look_191 ?_
              refine rp_iload 5 dX12_look_192 rfl ?_
              refine rp_iadd dX12_look_194 ?_
              refine rp_iald (tX12_29 h0) dX12_look_195 (fun x27 => ?_)
              refine rp_goto 201 dX12_look_196 (by decide) ?_
              exact rp_sub [0, 1, 2, 3, 5] rfl (rp_pu (hJ201 x27))
      refine rp_sub [2, 3, 1, 0] rfl (rp_it (fun (s5 : Int32 × Int32) => [(0, .ref (K.2.1 + a0)), (1, .int p1), (2, .int s5.1), (3, .int s5.2)]) (fun N42 ih42 s5 => ?_) FU ((0 : Int32), (0 : Int32)))
      refine rp_iload_n 3 dX12_look_42 rfl ?_
      refine rp_aload_n 0 dX12_look_43 rfl ?_
      refine rp_callVi [] (SX12_cloths (hn := hn) a0 h0) cvX12_cloths (mw (i := 1306) (by decide +kernel)) (by omega) h0 (by decide) rfl rfl rfl (Nat.le_of_ble_eq_true rfl) dX12_look_44 (fun x6 => ?_)
      refine rp_icmp_ge 138 dX12_look_47 (by decide) ?_ ?_
      · exact rp_sub [0, 2] rfl (rp_puR (hX42_0 s5.1))
      · refine rp_iconst (0 : Int32) dX12_look_50 (by decide) ?_
        refine rp_istore [(4, .int (0 : Int32)), (0, .ref (K.2.1 + a0)), (1, .int p1), (2, .int s5.1), (3, .int s5.2)] dX12_look_51 (by decide) rfl ?_
        refine rp_as ?_
        refine rp_join 132 (fun v20 => [(0, .ref (K.2.1 + a0)), (1, .int p1), (2, .int v20), (3, .int s5.2)]) (fun _ => []) (fun v20 => ?_) (fun hX53_0 => ?_)
        · refine rp_iinc (fun y21 => [(3, .int y21), (0, .ref (K.2.1 + a0)), (1, .int p1), (2, .int v20)]) 3 dX12_look_132 rfl (by rfl) (by decide) (fun y21 => rfl) (fun y21 => ?_)
          refine rp_goto 42 dX12_look_135 (by decide) ?_
          exact rp_sub [1, 2, 3, 0] rfl (ih42 (v20, y21))
        refine rp_sub [1, 2, 3, 4, 0] rfl (rp_it (fun (s7 : Int32 × Int32) => [(0, .ref (K.2.1 + a0)), (1, .int p1), (2, .int s7.1), (3, .int s5.2), (4, .int s7.2)]) (fun N53 ih53 s7 => ?_) FU (s5.1, (0 : Int32)))
        refine rp_iload 4 dX12_look_53 rfl ?_
        refine rp_aload_n 0 dX12_look_55 rfl ?_
        refine rp_callVi [] (SX12_lines (hn := hn) a0 h0) cvX12_lines (mw (i := 1551) (by decide +kernel)) (by omega) h0 (by decide) rfl rfl rfl (Nat.le_of_ble_eq_true rfl) dX12_look_56 (fun x8 => ?_)
        refine rp_icmp_ge 132 dX12_look_59 (by decide) ?_ ?_
        · exact rp_sub [0, 1, 2, 3] rfl (rp_puR (hX53_0 s7.1))
        · refine rp_aload_n 0 dX12_look_62 rfl ?_
          refine rp_iload_n 3 dX12_look_63 rfl ?_
          refine rp_iload 4 dX12_look_64 rfl ?_
          refine rp_callVz [.int s5.2, .int s7.2] (SX12_isTold (hn := hn) a0 s5.2 s7.2 h0) cvX12_isTold (mw (i := 1737) (by decide +kernel)) (by omega) h0 (by decide) rfl rfl rfl (Nat.le_of_ble_eq_true rfl) dX12_look_66 (fun x9 => ?_)
          refine rp_as ?_
          refine rp_join 126 (fun (v18 : Int32) => [(0, .ref (K.2.1 + a0)), (1, .int p1), (2, .int v18), (3, .int s5.2), (4, .int s7.2)]) (fun v18 => []) (fun v18 => ?_) (fun hJ126 => ?_)
          · refine rp_iinc (fun y19 => [(4, .int y19), (0, .ref (K.2.1 + a0)), (1, .int p1), (2, .int v18), (3, .int s5.2)]) 4 dX12_look_126 rfl (by rfl) (by decide) (fun y19 => rfl) (fun y19 => ?_)
            refine rp_goto 53 dX12_look_129 (by decide) ?_
            exact rp_sub [1, 2, 3, 4, 0] rfl (ih53 (v18, y19))
          refine rp_if_eq 126 dX12_look_69 (by decide) ?_ ?_
          · exact rp_sub [0, 1, 2, 3, 4] rfl (rp_pu (hJ126 s7.1))
          · refine rp_iinc (fun y10 => [(2, .int y10), (0, .ref (K.2.1 + a0)), (1, .int p1), (3, .int s5.2), (4, .int s7.2)]) 2 dX12_look_72 rfl (by rfl) (by decide) (fun y10 => rfl) (fun y10 => ?_)
            refine rp_aload_n 1 dX12_look_75 rfl ?_
            refine rp_iload_n 3 dX12_look_76 rfl ?_
            refine rp_iload 4 dX12_look_77 rfl ?_
            refine rp_iload_n 2 dX12_look_79 rfl ?_
            refine rp_callVv [.int s5.2, .int s7.2, .int p1] (SX12_hungFor (hn := hn) a0 s5.2 s7.2 p1 h0) cvX12_hungFor (mw (i := 1741) (by decide +kernel)) (by omega) h0 (by decide) rfl rfl rfl (Nat.le_of_ble_eq_true rfl) dX12_look_80 (fun x11 => ?_)
            refine rp_iconst (0 : Int32) dX12_look_83 (by decide) ?_
            refine rp_istore [(5, .int (0 : Int32)), (2, .int y10), (0, .ref (K.2.1 + a0)), (1, .int p1), (3, .int s5.2), (4, .int s7.2)] dX12_look_84 (by decide) rfl ?_
            refine rp_as ?_
            refine rp_join 126 (fun v17 => [(0, .ref (K.2.1 + a0)), (1, .int p1), (2, .int y10), (3, .int s5.2), (4, .int s7.2)]) (fun _ => []) (fun v17 => ?_) (fun hX86_0 => ?_)
            · exact rp_sub [0, 1, 2, 3, 4] rfl (rp_pu (hJ126 y10))
            refine rp_sub [2, 3, 1, 4, 5, 0] rfl (rp_it (fun (s12 : Int32) => [(0, .ref (K.2.1 + a0)), (1, .int p1), (2, .int y10), (3, .int s5.2), (4, .int s7.2), (5, .int s12)]) (fun N86 ih86 s12 => ?_) FU (0 : Int32))
            refine rp_iload 5 dX12_look_86 rfl ?_
            refine rp_aload_n 0 dX12_look_88 rfl ?_
            refine rp_callVi [] (SX12_places (hn := hn) a0 h0) cvX12_places (mw (i := 1583) (by decide +kernel)) (by omega) h0 (by decide) rfl rfl rfl (Nat.le_of_ble_eq_true rfl) dX12_look_89 (fun x13 => ?_)
            refine rp_icmp_ge 126 dX12_look_92 (by decide) ?_ ?_
            · exact rp_sub [0, 1, 2, 3, 4] rfl (rp_puR (hX86_0 ()))
            · refine rp_aload_n 0 dX12_look_95 rfl ?_
              refine rp_getR fi_X12_126 h0 rfl dX12_look_96 ?_
              refine rp_iconst (5 : Int32) dX12_look_99 (by decide) ?_
              refine rp_iload 5 dX12_look_100 rfl ?_
              refine rp_imul dX12_look_102 ?_
              refine rp_iconst (1 : Int32) dX12_look_103 (by decide) ?_
              refine rp_iadd dX12_look_104 ?_
              refine rp_aload_n 0 dX12_look_105 rfl ?_
              refine rp_sipush (882 : Int32) dX12_look_106 (by decide) ?_
              refine rp_iload 5 dX12_look_109 rfl ?_
              refine rp_callVi [.int (882 : Int32), .int s12] (SX12_weatherOf (hn := hn) a0 (882 : Int32) s12 h0) cvX12_weatherOf (mw (i := 1587) (by decide +kernel)) (by omega) h0 (by decide) rfl rfl rfl (Nat.le_of_ble_eq_true rfl) dX12_look_111 (fun x14 => ?_)
              refine rp_iadd dX12_look_114 ?_
              refine rp_dup2 dX12_look_115 rfl rfl ?_
              refine rp_iald (tX12_29 h0) dX12_look_116 (fun x15 => ?_)
              refine rp_iconst (1 : Int32) dX12_look_117 (by decide) ?_
              refine rp_iadd dX12_look_118 ?_
              refine rp_iast (tX12_29 h0) dX12_look_119 ?_
              refine rp_iinc (fun y16 => [(5, .int y16), (0, .ref (K.2.1 + a0)), (1, .int p1), (2, .int y10), (3, .int s5.2), (4, .int s7.2)]) 5 dX12_look_120 rfl (by rfl) (by decide) (fun y16 => rfl) (fun y16 => ?_)
              refine rp_goto 86 dX12_look_123 (by decide) ?_
              exact rp_sub [1, 2, 3, 4, 5, 0] rfl (ih86 y16)
    refine rp_sub [1, 2, 0] rfl (rp_it (fun (s2 : Int32) => [(0, .ref (K.2.1 + a0)), (1, .int p1), (2, .int s2)]) (fun N19 ih19 s2 => ?_) FU (0 : Int32))
    refine rp_iload_n 2 dX12_look_19 rfl ?_
    refine rp_bipush (20 : Int32) dX12_look_20 (by decide) ?_
    refine rp_icmp_ge 38 dX12_look_22 (by decide) ?_ ?_
    · exact rp_sub [0, 1] rfl (rp_puR (hX19_0 ()))
    · refine rp_aload_n 0 dX12_look_25 rfl ?_
      refine rp_getR fi_X12_126 h0 rfl dX12_look_26 ?_
      refine rp_iload_n 2 dX12_look_29 rfl ?_
      refine rp_iconst (0 : Int32) dX12_look_30 (by decide) ?_
      refine rp_iast (tX12_29 h0) dX12_look_31 ?_
      refine rp_iinc (fun y3 => [(2, .int y3), (0, .ref (K.2.1 + a0)), (1, .int p1)]) 2 dX12_look_32 rfl (by rfl) (by decide) (fun y3 => rfl) (fun y3 => ?_)
      refine rp_goto 19 dX12_look_35 (by decide) ?_
      exact rp_sub [1, 2, 0] rfl (ih19 y3)
  · refine rp_iconst (-1 : Int32) dX12_look_15 (by decide) ?_
    exact rp_pu (rp_iret rfl dX12_look_16)

theorem dX12_hasWet_0 : decode cX12_hasWet 0 = .ok (.iconst 0, 1) := by decide +kernel
theorem dX12_hasWet_1 : decode cX12_hasWet 1 = .ok (.istore_n 3, 1) := by decide +kernel
theorem dX12_hasWet_2 : decode cX12_hasWet 2 = .ok (.iconst 0, 1) := by decide +kernel
theorem dX12_hasWet_3 : decode cX12_hasWet 3 = .ok (.istore 4, 2) := by decide +kernel
theorem dX12_hasWet_5 : decode cX12_hasWet 5 = .ok (.iload 4, 2) := by decide +kernel
theorem dX12_hasWet_7 : decode cX12_hasWet 7 = .ok (.aload_n 0, 1) := by decide +kernel
theorem dX12_hasWet_8 : decode cX12_hasWet 8 = .ok (.invokevirtual 269, 3) := by decide +kernel
theorem dX12_hasWet_11 : decode cX12_hasWet 11 = .ok (.if_icmp .ge 63, 3) := by decide +kernel
theorem dX12_hasWet_14 : decode cX12_hasWet 14 = .ok (.iload_n 3, 1) := by decide +kernel
theorem dX12_hasWet_15 : decode cX12_hasWet 15 = .ok (.ifCond .ne 47, 3) := by decide +kernel
theorem dX12_hasWet_18 : decode cX12_hasWet 18 = .ok (.aload_n 0, 1) := by decide +kernel
theorem dX12_hasWet_19 : decode cX12_hasWet 19 = .ok (.getfield 113, 3) := by decide +kernel
theorem dX12_hasWet_22 : decode cX12_hasWet 22 = .ok (.bipush 7, 2) := by decide +kernel
theorem dX12_hasWet_24 : decode cX12_hasWet 24 = .ok (.iload 4, 2) := by decide +kernel
theorem dX12_hasWet_26 : decode cX12_hasWet 26 = .ok (.iadd, 1) := by decide +kernel
theorem dX12_hasWet_27 : decode cX12_hasWet 27 = .ok (.iaload, 1) := by decide +kernel
theorem dX12_hasWet_28 : decode cX12_hasWet 28 = .ok (.iload_n 1, 1) := by decide +kernel
theorem dX12_hasWet_29 : decode cX12_hasWet 29 = .ok (.if_icmp .ne 37, 3) := by decide +kernel
theorem dX12_hasWet_32 : decode cX12_hasWet 32 = .ok (.aload_n 0, 1) := by decide +kernel
theorem dX12_hasWet_33 : decode cX12_hasWet 33 = .ok (.iconst 0, 1) := by decide +kernel
theorem dX12_hasWet_34 : decode cX12_hasWet 34 = .ok (.iload 4, 2) := by decide +kernel
theorem dX12_hasWet_36 : decode cX12_hasWet 36 = .ok (.invokevirtual 301, 3) := by decide +kernel
theorem dX12_hasWet_39 : decode cX12_hasWet 39 = .ok (.ifCond .eq 27, 3) := by decide +kernel
theorem dX12_hasWet_42 : decode cX12_hasWet 42 = .ok (.aload_n 0, 1) := by decide +kernel
theorem dX12_hasWet_43 : decode cX12_hasWet 43 = .ok (.iload 4, 2) := by decide +kernel
theorem dX12_hasWet_45 : decode cX12_hasWet 45 = .ok (.iconst 0, 1) := by decide +kernel
theorem dX12_hasWet_46 : decode cX12_hasWet 46 = .ok (.invokevirtual 273, 3) := by decide +kernel
theorem dX12_hasWet_49 : decode cX12_hasWet 49 = .ok (.iconst 1, 1) := by decide +kernel
theorem dX12_hasWet_50 : decode cX12_hasWet 50 = .ok (.if_icmp .ne 7, 3) := by decide +kernel
theorem dX12_hasWet_53 : decode cX12_hasWet 53 = .ok (.iconst 1, 1) := by decide +kernel
theorem dX12_hasWet_54 : decode cX12_hasWet 54 = .ok (.goto 4, 3) := by decide +kernel
theorem dX12_hasWet_57 : decode cX12_hasWet 57 = .ok (.iconst 0, 1) := by decide +kernel
theorem dX12_hasWet_58 : decode cX12_hasWet 58 = .ok (.iload_n 2, 1) := by decide +kernel
theorem dX12_hasWet_59 : decode cX12_hasWet 59 = .ok (.if_icmp .ne 7, 3) := by decide +kernel
theorem dX12_hasWet_62 : decode cX12_hasWet 62 = .ok (.iconst 1, 1) := by decide +kernel
theorem dX12_hasWet_63 : decode cX12_hasWet 63 = .ok (.goto 4, 3) := by decide +kernel
theorem dX12_hasWet_66 : decode cX12_hasWet 66 = .ok (.iconst 0, 1) := by decide +kernel
theorem dX12_hasWet_67 : decode cX12_hasWet 67 = .ok (.istore_n 3, 1) := by decide +kernel
theorem dX12_hasWet_68 : decode cX12_hasWet 68 = .ok (.iinc 4 1, 3) := by decide +kernel
theorem dX12_hasWet_71 : decode cX12_hasWet 71 = .ok (.goto (-66), 3) := by decide +kernel
theorem dX12_hasWet_74 : decode cX12_hasWet 74 = .ok (.iload_n 3, 1) := by decide +kernel
theorem dX12_hasWet_75 : decode cX12_hasWet 75 = .ok (.ireturn, 1) := by decide +kernel
noncomputable def FX12_hasWet (a0 : Nat) (p1 : Int32) (p2 : Int32) : PP Bool := bd (it (fun (s1 : Int32 × Int32) => (bd (FX12_cloths a0) (fun x2 => if x2 ≤ s1.2 then pu (Sum.inr s1.1) else bd (if s1.1 = 0 then bd (aI (rf a0 23) 966 ((7 : Int32) + s1.2)) (fun x3 => if x3 = p1 then bd (FX12_isWet a0 (0 : Int32) s1.2) (fun x4 => if ((b2i x4)) = 0 then pu (0 : Int32) else bd (FX12_clothOf a0 s1.2 (0 : Int32)) (fun x5 => bd (if x5 = (1 : Int32) then pu (1 : Int32) else pu (0 : Int32) : PP (Int32)) (fun (v6 : Int32) => if v6 = p2 then pu (1 : Int32) else pu (0 : Int32)))) else pu (0 : Int32)) else pu (1 : Int32) : PP (Int32)) (fun (v7 : Int32) => lt (s1.2 + (1 : Int32)) (fun y8 => pu (Sum.inl (v7, y8))))) : PP ((Int32 × Int32) ⊕ (Int32)))) FU ((0 : Int32), (0 : Int32))) (fun (v9 : Int32) => zb v9)
set_option maxHeartbeats 4000000 in
set_option maxRecDepth 100000 in
theorem SX12_hasWet {l : Launch} {K : KK} {n : Nat} {hn : 270 ≤ n} (a0 : Nat) (p1 : Int32) (p2 : Int32) (h0 : ob a0 11) : CT l K n 1 mX12_hasWet [.ref (K.2.1 + a0), .int p1, .int p2] enZ (FX12_hasWet a0 p1 p2) := by
  refine CT.of2 (lv2 := [(0, .ref (K.2.1 + a0)), (1, .int p1), (2, .int p2)]) (by decide) rfl hn (Nat.le_of_ble_eq_true rfl) rfl (rp_id ?_)
  unfold FX12_hasWet
  refine rp_iconst (0 : Int32) dX12_hasWet_0 (by decide) ?_
  refine rp_istore_n [(3, .int (0 : Int32)), (0, .ref (K.2.1 + a0)), (1, .int p1), (2, .int p2)] dX12_hasWet_1 (by decide) rfl ?_
  refine rp_iconst (0 : Int32) dX12_hasWet_2 (by decide) ?_
  refine rp_istore [(4, .int (0 : Int32)), (3, .int (0 : Int32)), (0, .ref (K.2.1 + a0)), (1, .int p1), (2, .int p2)] dX12_hasWet_3 (by decide) rfl ?_
  refine rp_as ?_
  refine rp_join 74 (fun v9 => [(3, .int v9)]) (fun _ => []) (fun v9 => ?_) (fun hX5_0 => ?_)
  · refine rp_iload_n 0 dX12_hasWet_74 rfl ?_
    exact rp_zretb rfl dX12_hasWet_75
  refine rp_sub [2, 3, 4, 1, 0] rfl (rp_it (fun (s1 : Int32 × Int32) => [(0, .ref (K.2.1 + a0)), (1, .int p1), (2, .int p2), (3, .int s1.1), (4, .int s1.2)]) (fun N5 ih5 s1 => ?_) FU ((0 : Int32), (0 : Int32)))
  refine rp_iload 4 dX12_hasWet_5 rfl ?_
  refine rp_aload_n 0 dX12_hasWet_7 rfl ?_
  refine rp_callVi [] (SX12_cloths (hn := hn) a0 h0) cvX12_cloths (mw (i := 1306) (by decide +kernel)) (by omega) h0 (by decide) rfl rfl rfl (Nat.le_of_ble_eq_true rfl) dX12_hasWet_8 (fun x2 => ?_)
  refine rp_icmp_ge 74 dX12_hasWet_11 (by decide) ?_ ?_
  · exact rp_sub [3] rfl (rp_puR (hX5_0 s1.1))
  · refine rp_iload_n 3 dX12_hasWet_14 rfl ?_
    refine rp_as ?_
    refine rp_join 67 (fun (v7 : Int32) => [(0, .ref (K.2.1 + a0)), (1, .int p1), (2, .int p2), (4, .int s1.2)]) (fun v7 => [.int v7]) (fun v7 => ?_) (fun hJ67 => ?_)
    · refine rp_istore_n [(3, .int v7), (0, .ref (K.2.1 + a0)), (1, .int p1), (2, .int p2), (4, .int s1.2)] dX12_hasWet_67 (by decide) rfl ?_
      refine rp_iinc (fun y8 => [(4, .int y8), (3, .int v7), (0, .ref (K.2.1 + a0)), (1, .int p1), (2, .int p2)]) 4 dX12_hasWet_68 rfl (by rfl) (by decide) (fun y8 => rfl) (fun y8 => ?_)
      refine rp_goto 5 dX12_hasWet_71 (by decide) ?_
      exact rp_sub [2, 3, 4, 1, 0] rfl (ih5 (v7, y8))
    refine rp_if_ne 62 dX12_hasWet_15 (by decide) ?_ ?_
    · refine rp_iconst (1 : Int32) dX12_hasWet_62 (by decide) ?_
      refine rp_goto 67 dX12_hasWet_63 (by decide) ?_
      exact rp_sub [0, 1, 2, 4] rfl (rp_pu (hJ67 (1 : Int32)))
    · refine rp_aload_n 0 dX12_hasWet_18 rfl ?_
      refine rp_getR fi_X12_113 h0 rfl dX12_hasWet_19 ?_
      refine rp_bipush (7 : Int32) dX12_hasWet_22 (by decide) ?_
      refine rp_iload 4 dX12_hasWet_24 rfl ?_
      refine rp_iadd dX12_hasWet_26 ?_
      refine rp_iald (tX12_23 h0) dX12_hasWet_27 (fun x3 => ?_)
      refine rp_iload_n 1 dX12_hasWet_28 rfl ?_
      refine rp_icmp_ne 66 dX12_hasWet_29 (by decide) ?_ ?_
      · refine rp_iconst (0 : Int32) dX12_hasWet_66 (by decide) ?_
        exact rp_sub [0, 1, 2, 4] rfl (rp_pu (hJ67 (0 : Int32)))
      · refine rp_aload_n 0 dX12_hasWet_32 rfl ?_
        refine rp_iconst (0 : Int32) dX12_hasWet_33 (by decide) ?_
        refine rp_iload 4 dX12_hasWet_34 rfl ?_
        refine rp_callVz [.int (0 : Int32), .int s1.2] (SX12_isWet (hn := hn) a0 (0 : Int32) s1.2 h0) cvX12_isWet (mw (i := 1603) (by decide +kernel)) (by omega) h0 (by decide) rfl rfl rfl (Nat.le_of_ble_eq_true rfl) dX12_hasWet_36 (fun x4 => ?_)
        refine rp_if_eq 66 dX12_hasWet_39 (by decide) ?_ ?_
        · refine rp_iconst (0 : Int32) dX12_hasWet_66 (by decide) ?_
          exact rp_sub [0, 1, 2, 4] rfl (rp_pu (hJ67 (0 : Int32)))
        · refine rp_aload_n 0 dX12_hasWet_42 rfl ?_
          refine rp_iload 4 dX12_hasWet_43 rfl ?_
          refine rp_iconst (0 : Int32) dX12_hasWet_45 (by decide) ?_
          refine rp_callVi [.int s1.2, .int (0 : Int32)] (SX12_clothOf (hn := hn) a0 s1.2 (0 : Int32) h0) cvX12_clothOf (mw (i := 1310) (by decide +kernel)) (by omega) h0 (by decide) rfl rfl rfl (Nat.le_of_ble_eq_true rfl) dX12_hasWet_46 (fun x5 => ?_)
          refine rp_iconst (1 : Int32) dX12_hasWet_49 (by decide) ?_
          refine rp_as ?_
          refine rp_join 58 (fun (v6 : Int32) => [(0, .ref (K.2.1 + a0)), (1, .int p1), (2, .int p2), (4, .int s1.2)]) (fun v6 => [.int v6]) (fun v6 => ?_) (fun hJ58 => ?_)
          · refine rp_iload_n 2 dX12_hasWet_58 rfl ?_
            refine rp_icmp_ne 66 dX12_hasWet_59 (by decide) ?_ ?_
            · refine rp_iconst (0 : Int32) dX12_hasWet_66 (by decide) ?_
              exact rp_sub [0, 1, 2, 3] rfl (rp_pu (hJ67 (0 : Int32)))
            · refine rp_iconst (1 : Int32) dX12_hasWet_62 (by decide) ?_
              refine rp_goto 67 dX12_hasWet_63 (by decide) ?_
              exact rp_sub [0, 1, 2, 3] rfl (rp_pu (hJ67 (1 : Int32)))
          refine rp_icmp_ne 57 dX12_hasWet_50 (by decide) ?_ ?_
          · refine rp_iconst (0 : Int32) dX12_hasWet_57 (by decide) ?_
            exact rp_sub [0, 1, 2, 4] rfl (rp_pu (hJ58 (0 : Int32)))
          · refine rp_iconst (1 : Int32) dX12_hasWet_53 (by decide) ?_
            refine rp_goto 58 dX12_hasWet_54 (by decide) ?_
            exact rp_sub [0, 1, 2, 4] rfl (rp_pu (hJ58 (1 : Int32)))

theorem dX12_isRainbow_0 : decode cX12_isRainbow 0 = .ok (.aload_n 0, 1) := by decide +kernel
theorem dX12_isRainbow_1 : decode cX12_isRainbow 1 = .ok (.iload_n 1, 1) := by decide +kernel
theorem dX12_isRainbow_2 : decode cX12_isRainbow 2 = .ok (.iconst 1, 1) := by decide +kernel
theorem dX12_isRainbow_3 : decode cX12_isRainbow 3 = .ok (.invokevirtual 385, 3) := by decide +kernel
theorem dX12_isRainbow_6 : decode cX12_isRainbow 6 = .ok (.ifCond .eq 12, 3) := by decide +kernel
theorem dX12_isRainbow_9 : decode cX12_isRainbow 9 = .ok (.aload_n 0, 1) := by decide +kernel
theorem dX12_isRainbow_10 : decode cX12_isRainbow 10 = .ok (.iload_n 2, 1) := by decide +kernel
theorem dX12_isRainbow_11 : decode cX12_isRainbow 11 = .ok (.iconst 0, 1) := by decide +kernel
theorem dX12_isRainbow_12 : decode cX12_isRainbow 12 = .ok (.invokevirtual 385, 3) := by decide +kernel
theorem dX12_isRainbow_15 : decode cX12_isRainbow 15 = .ok (.ifCond .ne 21, 3) := by decide +kernel
theorem dX12_isRainbow_18 : decode cX12_isRainbow 18 = .ok (.aload_n 0, 1) := by decide +kernel
theorem dX12_isRainbow_19 : decode cX12_isRainbow 19 = .ok (.iload_n 2, 1) := by decide +kernel
theorem dX12_isRainbow_20 : decode cX12_isRainbow 20 = .ok (.iconst 1, 1) := by decide +kernel
theorem dX12_isRainbow_21 : decode cX12_isRainbow 21 = .ok (.invokevirtual 385, 3) := by decide +kernel
theorem dX12_isRainbow_24 : decode cX12_isRainbow 24 = .ok (.ifCond .eq 16, 3) := by decide +kernel
theorem dX12_isRainbow_27 : decode cX12_isRainbow 27 = .ok (.aload_n 0, 1) := by decide +kernel
theorem dX12_isRainbow_28 : decode cX12_isRainbow 28 = .ok (.iload_n 1, 1) := by decide +kernel
theorem dX12_isRainbow_29 : decode cX12_isRainbow 29 = .ok (.iconst 0, 1) := by decide +kernel
theorem dX12_isRainbow_30 : decode cX12_isRainbow 30 = .ok (.invokevirtual 385, 3) := by decide +kernel
theorem dX12_isRainbow_33 : decode cX12_isRainbow 33 = .ok (.ifCond .eq 7, 3) := by decide +kernel
theorem dX12_isRainbow_36 : decode cX12_isRainbow 36 = .ok (.iconst 1, 1) := by decide +kernel
theorem dX12_isRainbow_37 : decode cX12_isRainbow 37 = .ok (.goto 4, 3) := by decide +kernel
theorem dX12_isRainbow_40 : decode cX12_isRainbow 40 = .ok (.iconst 0, 1) := by decide +kernel
theorem dX12_isRainbow_41 : decode cX12_isRainbow 41 = .ok (.ireturn, 1) := by decide +kernel
noncomputable def FX12_isRainbow (a0 : Nat) (p1 : Int32) (p2 : Int32) : PP Bool := bd (FX12_hasWet a0 p1 (1 : Int32)) (fun x1 => bd (jn (fun (v4 : Unit) => bd (FX12_hasWet a0 p2 (1 : Int32)) (fun x5 => if ((b2i x5)) = 0 then pu (0 : Int32) else bd (FX12_hasWet a0 p1 (0 : Int32)) (fun x6 => if ((b2i x6)) = 0 then pu (0 : Int32) else pu (1 : Int32)))) (fun j2 => if ((b2i x1)) = 0 then j2 () else bd (FX12_hasWet a0 p2 (0 : Int32)) (fun x3 => if ((b2i x3)) = 0 then j2 () else pu (1 : Int32))) : PP (Int32)) (fun (v7 : Int32) => zb v7))
set_option maxHeartbeats 4000000 in
set_option maxRecDepth 100000 in
theorem SX12_isRainbow {l : Launch} {K : KK} {n : Nat} {hn : 270 ≤ n} (a0 : Nat) (p1 : Int32) (p2 : Int32) (h0 : ob a0 11) : CT l K n 2 mX12_isRainbow [.ref (K.2.1 + a0), .int p1, .int p2] enZ (FX12_isRainbow a0 p1 p2) := by
  refine CT.of2 (lv2 := [(0, .ref (K.2.1 + a0)), (1, .int p1), (2, .int p2)]) (by decide) rfl hn (Nat.le_of_ble_eq_true rfl) rfl (rp_id ?_)
  unfold FX12_isRainbow
  refine rp_aload_n 0 dX12_isRainbow_0 rfl ?_
  refine rp_iload_n 1 dX12_isRainbow_1 rfl ?_
  refine rp_iconst (1 : Int32) dX12_isRainbow_2 (by decide) ?_
  refine rp_callVz [.int p1, .int (1 : Int32)] (SX12_hasWet (hn := hn) a0 p1 (1 : Int32) h0) cvX12_hasWet (mw (i := 1757) (by decide +kernel)) (by omega) h0 (by decide) rfl rfl rfl (Nat.le_of_ble_eq_true rfl) dX12_isRainbow_3 (fun x1 => ?_)
  refine rp_as ?_
  refine rp_join 41 (fun (v7 : Int32) => []) (fun v7 => [.int v7]) (fun v7 => ?_) (fun hJ41 => ?_)
  · exact rp_zretb rfl dX12_isRainbow_41
  refine rp_jn2 18 (fun (v4 : Unit) => [(0, .ref (K.2.1 + a0)), (1, .int p1), (2, .int p2)]) (fun v4 => []) (fun v4 => ?_) (fun hK18 => ?_)
  · refine rp_aload_n 0 dX12_isRainbow_18 rfl ?_
    refine rp_iload_n 2 dX12_isRainbow_19 rfl ?_
    refine rp_iconst (1 : Int32) dX12_isRainbow_20 (by decide) ?_
    refine rp_callVz [.int p2, .int (1 : Int32)] (SX12_hasWet (hn := hn) a0 p2 (1 : Int32) h0) cvX12_hasWet (mw (i := 1757) (by decide +kernel)) (by omega) h0 (by decide) rfl rfl rfl (Nat.le_of_ble_eq_true rfl) dX12_isRainbow_21 (fun x5 => ?_)
    refine rp_if_eq 40 dX12_isRainbow_24 (by decide) ?_ ?_
    · refine rp_iconst (0 : Int32) dX12_isRainbow_40 (by decide) ?_
      exact rp_sub [] rfl (rp_pu (hJ41 (0 : Int32)))
    · refine rp_aload_n 0 dX12_isRainbow_27 rfl ?_
      refine rp_iload_n 1 dX12_isRainbow_28 rfl ?_
      refine rp_iconst (0 : Int32) dX12_isRainbow_29 (by decide) ?_
      refine rp_callVz [.int p1, .int (0 : Int32)] (SX12_hasWet (hn := hn) a0 p1 (0 : Int32) h0) cvX12_hasWet (mw (i := 1757) (by decide +kernel)) (by omega) h0 (by decide) rfl rfl rfl (Nat.le_of_ble_eq_true rfl) dX12_isRainbow_30 (fun x6 => ?_)
      refine rp_if_eq 40 dX12_isRainbow_33 (by decide) ?_ ?_
      · refine rp_iconst (0 : Int32) dX12_isRainbow_40 (by decide) ?_
        exact rp_sub [] rfl (rp_pu (hJ41 (0 : Int32)))
      · refine rp_iconst (1 : Int32) dX12_isRainbow_36 (by decide) ?_
        refine rp_goto 41 dX12_isRainbow_37 (by decide) ?_
        exact rp_sub [] rfl (rp_pu (hJ41 (1 : Int32)))
  refine rp_if_eq 18 dX12_isRainbow_6 (by decide) ?_ ?_
  · exact rp_sub [0, 1, 2] rfl (hK18 ())
  · refine rp_aload_n 0 dX12_isRainbow_9 rfl ?_
    refine rp_iload_n 2 dX12_isRainbow_10 rfl ?_
    refine rp_iconst (0 : Int32) dX12_isRainbow_11 (by decide) ?_
    refine rp_callVz [.int p2, .int (0 : Int32)] (SX12_hasWet (hn := hn) a0 p2 (0 : Int32) h0) cvX12_hasWet (mw (i := 1757) (by decide +kernel)) (by omega) h0 (by decide) rfl rfl rfl (Nat.le_of_ble_eq_true rfl) dX12_isRainbow_12 (fun x3 => ?_)
    refine rp_if_ne 36 dX12_isRainbow_15 (by decide) ?_ ?_
    · refine rp_iconst (1 : Int32) dX12_isRainbow_36 (by decide) ?_
      refine rp_goto 41 dX12_isRainbow_37 (by decide) ?_
      exact rp_sub [] rfl (rp_pu (hJ41 (1 : Int32)))
    · exact rp_sub [0, 1, 2] rfl (hK18 ())

theorem dX12_crossings_0 : decode cX12_crossings 0 = .ok (.iconst 0, 1) := by decide +kernel
theorem dX12_crossings_1 : decode cX12_crossings 1 = .ok (.istore_n 2, 1) := by decide +kernel
theorem dX12_crossings_2 : decode cX12_crossings 2 = .ok (.iconst 0, 1) := by decide +kernel
theorem dX12_crossings_3 : decode cX12_crossings 3 = .ok (.istore_n 3, 1) := by decide +kernel
theorem dX12_crossings_4 : decode cX12_crossings 4 = .ok (.iload_n 3, 1) := by decide +kernel
theorem dX12_crossings_5 : decode cX12_crossings 5 = .ok (.aload_n 0, 1) := by decide +kernel
theorem dX12_crossings_6 : decode cX12_crossings 6 = .ok (.invokevirtual 285, 3) := by decide +kernel
theorem dX12_crossings_9 : decode cX12_crossings 9 = .ok (.if_icmp .ge 113, 3) := by decide +kernel
theorem dX12_crossings_12 : decode cX12_crossings 12 = .ok (.iload_n 3, 1) := by decide +kernel
theorem dX12_crossings_13 : decode cX12_crossings 13 = .ok (.iconst 1, 1) := by decide +kernel
theorem dX12_crossings_14 : decode cX12_crossings 14 = .ok (.iadd, 1) := by decide +kernel
theorem dX12_crossings_15 : decode cX12_crossings 15 = .ok (.istore 4, 2) := by decide +kernel
theorem dX12_crossings_17 : decode cX12_crossings 17 = .ok (.iload 4, 2) := by decide +kernel
theorem dX12_crossings_19 : decode cX12_crossings 19 = .ok (.aload_n 0, 1) := by decide +kernel
theorem dX12_crossings_20 : decode cX12_crossings 20 = .ok (.invokevirtual 285, 3) := by decide +kernel
theorem dX12_crossings_23 : decode cX12_crossings 23 = .ok (.if_icmp .ge 93, 3) := by decide +kernel
theorem dX12_crossings_26 : decode cX12_crossings 26 = .ok (.aload_n 0, 1) := by decide +kernel
theorem dX12_crossings_27 : decode cX12_crossings 27 = .ok (.iload_n 3, 1) := by decide +kernel
theorem dX12_crossings_28 : decode cX12_crossings 28 = .ok (.iconst 1, 1) := by decide +kernel
theorem dX12_crossings_29 : decode cX12_crossings 29 = .ok (.invokevirtual 385, 3) := by decide +kernel
theorem dX12_crossings_32 : decode cX12_crossings 32 = .ok (.ifCond .ne 12, 3) := by decide +kernel
theorem dX12_crossings_35 : decode cX12_crossings 35 = .ok (.aload_n 0, 1) := by decide +kernel
theorem dX12_crossings_36 : decode cX12_crossings 36 = .ok (.iload_n 3, 1) := by decide +kernel
theorem dX12_crossings_37 : decode cX12_crossings 37 = .ok (.iconst 0, 1) := by decide +kernel
theorem dX12_crossings_38 : decode cX12_crossings 38 = .ok (.invokevirtual 385, 3) := by decide +kernel
theorem dX12_crossings_41 : decode cX12_crossings 41 = .ok (.ifCond .eq 27, 3) := by decide +kernel
theorem dX12_crossings_44 : decode cX12_crossings 44 = .ok (.aload_n 0, 1) := by decide +kernel
theorem dX12_crossings_45 : decode cX12_crossings 45 = .ok (.iload 4, 2) := by decide +kernel
theorem dX12_crossings_47 : decode cX12_crossings 47 = .ok (.iconst 1, 1) := by decide +kernel
theorem dX12_crossings_48 : decode cX12_crossings 48 = .ok (.invokevirtual 385, 3) := by decide +kernel
theorem dX12_crossings_51 : decode cX12_crossings 51 = .ok (.ifCond .ne 13, 3) := by decide +kernel
theorem dX12_crossings_54 : decode cX12_crossings 54 = .ok (.aload_n 0, 1) := by decide +kernel
theorem dX12_crossings_55 : decode cX12_crossings 55 = .ok (.iload 4, 2) := by decide +kernel
theorem dX12_crossings_57 : decode cX12_crossings 57 = .ok (.iconst 0, 1) := by decide +kernel
theorem dX12_crossings_58 : decode cX12_crossings 58 = .ok (.invokevirtual 385, 3) := by decide +kernel
theorem dX12_crossings_61 : decode cX12_crossings 61 = .ok (.ifCond .eq 7, 3) := by decide +kernel
theorem dX12_crossings_64 : decode cX12_crossings 64 = .ok (.iconst 1, 1) := by decide +kernel
theorem dX12_crossings_65 : decode cX12_crossings 65 = .ok (.goto 4, 3) := by decide +kernel
theorem dX12_crossings_68 : decode cX12_crossings 68 = .ok (.iconst 0, 1) := by decide +kernel
theorem dX12_crossings_69 : decode cX12_crossings 69 = .ok (.istore 5, 2) := by decide +kernel
theorem dX12_crossings_71 : decode cX12_crossings 71 = .ok (.iload_n 2, 1) := by decide +kernel
theorem dX12_crossings_72 : decode cX12_crossings 72 = .ok (.aload_n 0, 1) := by decide +kernel
theorem dX12_crossings_73 : decode cX12_crossings 73 = .ok (.iload_n 3, 1) := by decide +kernel
theorem dX12_crossings_74 : decode cX12_crossings 74 = .ok (.iconst 1, 1) := by decide +kernel
theorem dX12_crossings_75 : decode cX12_crossings 75 = .ok (.invokevirtual 291, 3) := by decide +kernel
theorem dX12_crossings_78 : decode cX12_crossings 78 = .ok (.iload 4, 2) := by decide +kernel
theorem dX12_crossings_80 : decode cX12_crossings 80 = .ok (.ishr, 1) := by decide +kernel
theorem dX12_crossings_81 : decode cX12_crossings 81 = .ok (.iconst 1, 1) := by decide +kernel
theorem dX12_crossings_82 : decode cX12_crossings 82 = .ok (.iand, 1) := by decide +kernel
theorem dX12_crossings_83 : decode cX12_crossings 83 = .ok (.iconst 1, 1) := by decide +kernel
theorem dX12_crossings_84 : decode cX12_crossings 84 = .ok (.if_icmp .ne 23, 3) := by decide +kernel
theorem dX12_crossings_87 : decode cX12_crossings 87 = .ok (.iload 5, 2) := by decide +kernel
theorem dX12_crossings_89 : decode cX12_crossings 89 = .ok (.ifCond .eq 18, 3) := by decide +kernel
theorem dX12_crossings_92 : decode cX12_crossings 92 = .ok (.aload_n 0, 1) := by decide +kernel
theorem dX12_crossings_93 : decode cX12_crossings 93 = .ok (.iload_n 3, 1) := by decide +kernel
theorem dX12_crossings_94 : decode cX12_crossings 94 = .ok (.iload 4, 2) := by decide +kernel
theorem dX12_crossings_96 : decode cX12_crossings 96 = .ok (.invokevirtual 389, 3) := by decide +kernel
theorem dX12_crossings_99 : decode cX12_crossings 99 = .ok (.iload_n 1, 1) := by decide +kernel
theorem dX12_crossings_100 : decode cX12_crossings 100 = .ok (.if_icmp .ne 7, 3) := by decide +kernel
theorem dX12_crossings_103 : decode cX12_crossings 103 = .ok (.iconst 1, 1) := by decide +kernel
theorem dX12_crossings_104 : decode cX12_crossings 104 = .ok (.goto 4, 3) := by decide +kernel
theorem dX12_crossings_107 : decode cX12_crossings 107 = .ok (.iconst 0, 1) := by decide +kernel
theorem dX12_crossings_108 : decode cX12_crossings 108 = .ok (.iadd, 1) := by decide +kernel
theorem dX12_crossings_109 : decode cX12_crossings 109 = .ok (.istore_n 2, 1) := by decide +kernel
theorem dX12_crossings_110 : decode cX12_crossings 110 = .ok (.iinc 4 1, 3) := by decide +kernel
theorem dX12_crossings_113 : decode cX12_crossings 113 = .ok (.goto (-96), 3) := by decide +kernel
theorem dX12_crossings_116 : decode cX12_crossings 116 = .ok (.iinc 3 1, 3) := by decide +kernel
theorem dX12_crossings_119 : decode cX12_crossings 119 = .ok (.goto (-115), 3) := by decide +kernel
theorem dX12_crossings_122 : decode cX12_crossings 122 = .ok (.iload_n 2, 1) := by decide +kernel
theorem dX12_crossings_123 : decode cX12_crossings 123 = .ok (.ireturn, 1) := by decide +kernel
noncomputable def FX12_crossings (a0 : Nat) (p1 : Int32) : PP Int32 := bd (it (fun (s1 : Int32 × Int32) => (bd (FX12_lines a0) (fun x2 => if x2 ≤ s1.2 then pu (Sum.inr s1.1) else lt (s1.2 + (1 : Int32)) (fun y3 => bd (it (fun (s4 : Int32 × Int32) => (bd (FX12_lines a0) (fun x5 => if x5 ≤ s4.2 then pu (Sum.inr s4.1) else bd (FX12_hasWet a0 s1.2 (1 : Int32)) (fun x6 => bd (jn (fun (v9 : Unit) => bd (FX12_hasWet a0 s4.2 (1 : Int32)) (fun x10 => if ((b2i x10)) = 0 then bd (FX12_hasWet a0 s4.2 (0 : Int32)) (fun x11 => if ((b2i x11)) = 0 then pu (0 : Int32) else pu (1 : Int32)) else pu (1 : Int32))) (fun j7 => if ((b2i x6)) = 0 then bd (FX12_hasWet a0 s1.2 (0 : Int32)) (fun x8 => if ((b2i x8)) = 0 then pu (0 : Int32) else j7 ()) else j7 ()) : PP (Int32)) (fun (v12 : Int32) => bd (FX12_lineOf a0 s1.2 (1 : Int32)) (fun x13 => bd (if ((x13 >>> (s4.2 &&& 31)) &&& (1 : Int32)) = (1 : Int32) then if v12 = 0 then pu (0 : Int32) else bd (FX12_isRainbow a0 s1.2 s4.2) (fun x14 => if ((b2i x14)) = p1 then pu (1 : Int32) else pu (0 : Int32)) else pu (0 : Int32) : PP (Int32)) (fun (v15 : Int32) => lt (s4.1 + v15) (fun y16 => lt (s4.2 + (1 : Int32)) (fun y17 => pu (Sum.inl (y16, y17))))))))) : PP ((Int32 × Int32) ⊕ (Int32)))) FU (s1.1, y3)) (fun (v18 : Int32) => lt (s1.2 + (1 : Int32)) (fun y19 => pu (Sum.inl (v18, y19)))))) : PP ((Int32 × Int32) ⊕ (Int32)))) FU ((0 : Int32), (0 : Int32))) (fun (v20 : Int32) => pu v20)
set_option maxHeartbeats 4000000 in
set_option maxRecDepth 100000 in
theorem SX12_crossings {l : Launch} {K : KK} {n : Nat} {hn : 270 ≤ n} (a0 : Nat) (p1 : Int32) (h0 : ob a0 11) : CT l K n 3 mX12_crossings [.ref (K.2.1 + a0), .int p1] enI (FX12_crossings a0 p1) := by
  refine CT.of2 (lv2 := [(0, .ref (K.2.1 + a0)), (1, .int p1)]) (by decide) rfl hn (Nat.le_of_ble_eq_true rfl) rfl (rp_id ?_)
  unfold FX12_crossings
  refine rp_iconst (0 : Int32) dX12_crossings_0 (by decide) ?_
  refine rp_istore_n [(2, .int (0 : Int32)), (0, .ref (K.2.1 + a0)), (1, .int p1)] dX12_crossings_1 (by decide) rfl ?_
  refine rp_iconst (0 : Int32) dX12_crossings_2 (by decide) ?_
  refine rp_istore_n [(3, .int (0 : Int32)), (2, .int (0 : Int32)), (0, .ref (K.2.1 + a0)), (1, .int p1)] dX12_crossings_3 (by decide) rfl ?_
  refine rp_as ?_
  refine rp_join 122 (fun v20 => [(2, .int v20)]) (fun _ => []) (fun v20 => ?_) (fun hX4_0 => ?_)
  · refine rp_iload_n 0 dX12_crossings_122 rfl ?_
    exact rp_pu (rp_iret rfl dX12_crossings_123)
  refine rp_sub [2, 3, 1, 0] rfl (rp_it (fun (s1 : Int32 × Int32) => [(0, .ref (K.2.1 + a0)), (1, .int p1), (2, .int s1.1), (3, .int s1.2)]) (fun N4 ih4 s1 => ?_) FU ((0 : Int32), (0 : Int32)))
  refine rp_iload_n 3 dX12_crossings_4 rfl ?_
  refine rp_aload_n 0 dX12_crossings_5 rfl ?_
  refine rp_callVi [] (SX12_lines (hn := hn) a0 h0) cvX12_lines (mw (i := 1551) (by decide +kernel)) (by omega) h0 (by decide) rfl rfl rfl (Nat.le_of_ble_eq_true rfl) dX12_crossings_6 (fun x2 => ?_)
  refine rp_icmp_ge 122 dX12_crossings_9 (by decide) ?_ ?_
  · exact rp_sub [2] rfl (rp_puR (hX4_0 s1.1))
  · refine rp_iload_n 3 dX12_crossings_12 rfl ?_
    refine rp_iconst (1 : Int32) dX12_crossings_13 (by decide) ?_
    refine rp_iadd dX12_crossings_14 ?_
    refine rp_lti (fun y3 => ?_)
    refine rp_istore [(4, .int y3), (0, .ref (K.2.1 + a0)), (1, .int p1), (2, .int s1.1), (3, .int s1.2)] dX12_crossings_15 (by decide) rfl ?_
    refine rp_as ?_
    refine rp_join 116 (fun v18 => [(0, .ref (K.2.1 + a0)), (1, .int p1), (2, .int v18), (3, .int s1.2)]) (fun _ => []) (fun v18 => ?_) (fun hX17_0 => ?_)
    · refine rp_iinc (fun y19 => [(3, .int y19), (0, .ref (K.2.1 + a0)), (1, .int p1), (2, .int v18)]) 3 dX12_crossings_116 rfl (by rfl) (by decide) (fun y19 => rfl) (fun y19 => ?_)
      refine rp_goto 4 dX12_crossings_119 (by decide) ?_
      exact rp_sub [1, 2, 3, 0] rfl (ih4 (v18, y19))
    refine rp_sub [1, 2, 3, 4, 0] rfl (rp_it (fun (s4 : Int32 × Int32) => [(0, .ref (K.2.1 + a0)), (1, .int p1), (2, .int s4.1), (3, .int s1.2), (4, .int s4.2)]) (fun N17 ih17 s4 => ?_) FU (s1.1, y3))
    refine rp_iload 4 dX12_crossings_17 rfl ?_
    refine rp_aload_n 0 dX12_crossings_19 rfl ?_
    refine rp_callVi [] (SX12_lines (hn := hn) a0 h0) cvX12_lines (mw (i := 1551) (by decide +kernel)) (by omega) h0 (by decide) rfl rfl rfl (Nat.le_of_ble_eq_true rfl) dX12_crossings_20 (fun x5 => ?_)
    refine rp_icmp_ge 116 dX12_crossings_23 (by decide) ?_ ?_
    · exact rp_sub [0, 1, 2, 3] rfl (rp_puR (hX17_0 s4.1))
    · refine rp_aload_n 0 dX12_crossings_26 rfl ?_
      refine rp_iload_n 3 dX12_crossings_27 rfl ?_
      refine rp_iconst (1 : Int32) dX12_crossings_28 (by decide) ?_
      refine rp_callVz [.int s1.2, .int (1 : Int32)] (SX12_hasWet (hn := hn) a0 s1.2 (1 : Int32) h0) cvX12_hasWet (mw (i := 1757) (by decide +kernel)) (by omega) h0 (by decide) rfl rfl rfl (Nat.le_of_ble_eq_true rfl) dX12_crossings_29 (fun x6 => ?_)
      refine rp_as ?_
      refine rp_join 69 (fun (v12 : Int32) => [(0, .ref (K.2.1 + a0)), (1, .int p1), (2, .int s4.1), (3, .int s1.2), (4, .int s4.2)]) (fun v12 => [.int v12]) (fun v12 => ?_) (fun hJ69 => ?_)
      · refine rp_istore [(5, .int v12), (0, .ref (K.2.1 + a0)), (1, .int p1), (2, .int s4.1), (3, .int s1.2), (4, .int s4.2)] dX12_crossings_69 (by decide) rfl ?_
        refine rp_iload_n 3 dX12_crossings_71 rfl ?_
        refine rp_aload_n 1 dX12_crossings_72 rfl ?_
        refine rp_iload_n 4 dX12_crossings_73 rfl ?_
        refine rp_iconst (1 : Int32) dX12_crossings_74 (by decide) ?_
        refine rp_callVi [.int s1.2, .int (1 : Int32)] (SX12_lineOf (hn := hn) a0 s1.2 (1 : Int32) h0) cvX12_lineOf (mw (i := 1555) (by decide +kernel)) (by omega) h0 (by decide) rfl rfl rfl (Nat.le_of_ble_eq_true rfl) dX12_crossings_75 (fun x13 => ?_)
        refine rp_iload 5 dX12_crossings_78 rfl ?_
        refine rp_ishr dX12_crossings_80 ?_
        refine rp_iconst (1 : Int32) dX12_crossings_81 (by decide) ?_
        refine rp_iand dX12_crossings_82 ?_
        refine rp_iconst (1 : Int32) dX12_crossings_83 (by decide) ?_
        refine rp_as ?_
        refine rp_join 108 (fun (v15 : Int32) => [(0, .ref (K.2.1 + a0)), (1, .int p1), (3, .int s1.2), (4, .int s4.2)]) (fun v15 => [.int v15, .int s4.1]) (fun v15 => ?_) (fun hJ108 => ?_)
        · refine rp_iadd dX12_crossings_108 ?_
          refine rp_lti (fun y16 => ?_)
          refine rp_istore_n [(2, .int y16), (0, .ref (K.2.1 + a0)), (1, .int p1), (3, .int s1.2), (4, .int s4.2)] dX12_crossings_109 (by decide) rfl ?_
          refine rp_iinc (fun y17 => [(4, .int y17), (2, .int y16), (0, .ref (K.2.1 + a0)), (1, .int p1), (3, .int s1.2)]) 4 dX12_crossings_110 rfl (by rfl) (by decide) (fun y17 => rfl) (fun y17 => ?_)
          refine rp_goto 17 dX12_crossings_113 (by decide) ?_
          exact rp_sub [2, 3, 1, 4, 0] rfl (ih17 (y16, y17))
        refine rp_icmp_ne 107 dX12_crossings_84 (by decide) ?_ ?_
        · refine rp_iconst (0 : Int32) dX12_crossings_107 (by decide) ?_
          exact rp_sub [1, 2, 4, 5] rfl (rp_pu (hJ108 (0 : Int32)))
        · refine rp_iload 0 dX12_crossings_87 rfl ?_
          refine rp_if_eq 107 dX12_crossings_89 (by decide) ?_ ?_
          · refine rp_iconst (0 : Int32) dX12_crossings_107 (by decide) ?_
            exact rp_sub [1, 2, 4, 5] rfl (rp_pu (hJ108 (0 : Int32)))
          · refine rp_aload_n 1 dX12_crossings_92 rfl ?_
            refine rp_iload_n 4 dX12_crossings_93 rfl ?_
            refine rp_iload 5 dX12_crossings_94 rfl ?_
            refine rp_callVz [.int s1.2, .int s4.2] (SX12_isRainbow (hn := hn) a0 s1.2 s4.2 h0) cvX12_isRainbow (mw (i := 1761) (by decide +kernel)) (by omega) h0 (by decide) rfl rfl rfl (Nat.le_of_ble_eq_true rfl) dX12_crossings_96 (fun x14 => ?_)
            refine rp_iload_n 2 dX12_crossings_99 rfl ?_
            refine rp_icmp_ne 107 dX12_crossings_100 (by decide) ?_ ?_
            · refine rp_iconst (0 : Int32) dX12_crossings_107 (by decide) ?_
              exact rp_sub [1, 2, 4, 5] rfl (rp_pu (hJ108 (0 : Int32)))
            · refine rp_iconst (1 : Int32) dX12_crossings_103 (by decide) ?_
              refine rp_goto 108 dX12_crossings_104 (by decide) ?_
              exact rp_sub [1, 2, 4, 5] rfl (rp_pu (hJ108 (1 : Int32)))
      refine rp_jn2 44 (fun (v9 : Unit) => [(0, .ref (K.2.1 + a0)), (1, .int p1), (2, .int s4.1), (3, .int s1.2), (4, .int s4.2)]) (fun v9 => []) (fun v9 => ?_) (fun hK44 => ?_)
      · refine rp_aload_n 0 dX12_crossings_44 rfl ?_
        refine rp_iload 4 dX12_crossings_45 rfl ?_
        refine rp_iconst (1 : Int32) dX12_crossings_47 (by decide) ?_
        refine rp_callVz [.int s4.2, .int (1 : Int32)] (SX12_hasWet (hn := hn) a0 s4.2 (1 : Int32) h0) cvX12_hasWet (mw (i := 1757) (by decide +kernel)) (by omega) h0 (by decide) rfl rfl rfl (Nat.le_of_ble_eq_true rfl) dX12_crossings_48 (fun x10 => ?_)
        refine rp_if_ne 64 dX12_crossings_51 (by decide) ?_ ?_
        · refine rp_iconst (1 : Int32) dX12_crossings_64 (by decide) ?_
          refine rp_goto 69 dX12_crossings_65 (by decide) ?_
          exact rp_sub [0, 1, 2, 3, 4] rfl (rp_pu (hJ69 (1 : Int32)))
        · refine rp_aload_n 0 dX12_crossings_54 rfl ?_
          refine rp_iload 4 dX12_crossings_55 rfl ?_
          refine rp_iconst (0 : Int32) dX12_crossings_57 (by decide) ?_
          refine rp_callVz [.int s4.2, .int (0 : Int32)] (SX12_hasWet (hn := hn) a0 s4.2 (0 : Int32) h0) cvX12_hasWet (mw (i := 1757) (by decide +kernel)) (by omega) h0 (by decide) rfl rfl rfl (Nat.le_of_ble_eq_true rfl) dX12_crossings_58 (fun x11 => ?_)
          refine rp_if_eq 68 dX12_crossings_61 (by decide) ?_ ?_
          · refine rp_iconst (0 : Int32) dX12_crossings_68 (by decide) ?_
            exact rp_sub [0, 1, 2, 3, 4] rfl (rp_pu (hJ69 (0 : Int32)))
          · refine rp_iconst (1 : Int32) dX12_crossings_64 (by decide) ?_
            refine rp_goto 69 dX12_crossings_65 (by decide) ?_
            exact rp_sub [0, 1, 2, 3, 4] rfl (rp_pu (hJ69 (1 : Int32)))
      refine rp_if_ne 44 dX12_crossings_32 (by decide) ?_ ?_
      · exact rp_sub [0, 1, 2, 3, 4] rfl (hK44 ())
      · refine rp_aload_n 0 dX12_crossings_35 rfl ?_
        refine rp_iload_n 3 dX12_crossings_36 rfl ?_
        refine rp_iconst (0 : Int32) dX12_crossings_37 (by decide) ?_
        refine rp_callVz [.int s1.2, .int (0 : Int32)] (SX12_hasWet (hn := hn) a0 s1.2 (0 : Int32) h0) cvX12_hasWet (mw (i := 1757) (by decide +kernel)) (by omega) h0 (by decide) rfl rfl rfl (Nat.le_of_ble_eq_true rfl) dX12_crossings_38 (fun x8 => ?_)
        refine rp_if_eq 68 dX12_crossings_41 (by decide) ?_ ?_
        · refine rp_iconst (0 : Int32) dX12_crossings_68 (by decide) ?_
          exact rp_sub [0, 1, 2, 3, 4] rfl (rp_pu (hJ69 (0 : Int32)))
        · exact rp_sub [0, 1, 2, 3, 4] rfl (hK44 ())

theorem dX12_rainbows_0 : decode cX12_rainbows 0 = .ok (.aload_n 0, 1) := by decide +kernel
theorem dX12_rainbows_1 : decode cX12_rainbows 1 = .ok (.iconst 0, 1) := by decide +kernel
theorem dX12_rainbows_2 : decode cX12_rainbows 2 = .ok (.putfield 1, 3) := by decide +kernel
theorem dX12_rainbows_5 : decode cX12_rainbows 5 = .ok (.aload_n 0, 1) := by decide +kernel
theorem dX12_rainbows_6 : decode cX12_rainbows 6 = .ok (.iconst 1, 1) := by decide +kernel
theorem dX12_rainbows_7 : decode cX12_rainbows 7 = .ok (.invokevirtual 392, 3) := by decide +kernel
theorem dX12_rainbows_10 : decode cX12_rainbows 10 = .ok (.ireturn, 1) := by decide +kernel
noncomputable def FX12_rainbows (a0 : Nat) : PP Int32 := bd (sI a0 0 (0 : Int32)) (fun (_ : Unit) => bd (FX12_crossings a0 (1 : Int32)) (fun x1 => pu x1))
set_option maxHeartbeats 4000000 in
set_option maxRecDepth 100000 in
theorem SX12_rainbows {l : Launch} {K : KK} {n : Nat} {hn : 270 ≤ n} (a0 : Nat) (h0 : ob a0 11) : CT l K n 4 mX12_rainbows [.ref (K.2.1 + a0)] enI (FX12_rainbows a0) := by
  refine CT.of2 (lv2 := [(0, .ref (K.2.1 + a0))]) (by decide) rfl hn (Nat.le_of_ble_eq_true rfl) rfl (rp_id ?_)
  unfold FX12_rainbows
  refine rp_aload_n 0 dX12_rainbows_0 rfl ?_
  refine rp_iconst (0 : Int32) dX12_rainbows_1 (by decide) ?_
  refine rp_putI fi_X12_1 fp_X12_0 h0 rfl dX12_rainbows_2 ?_
  refine rp_aload_n 0 dX12_rainbows_5 rfl ?_
  refine rp_iconst (1 : Int32) dX12_rainbows_6 (by decide) ?_
  refine rp_callVi [.int (1 : Int32)] (SX12_crossings (hn := hn) a0 (1 : Int32) h0) cvX12_crossings (mw (i := 1753) (by decide +kernel)) (by omega) h0 (by decide) rfl rfl rfl (Nat.le_of_ble_eq_true rfl) dX12_rainbows_7 (fun x1 => ?_)
  exact rp_pu (rp_iret rfl dX12_rainbows_10)

theorem dX12_quarrels_0 : decode cX12_quarrels 0 = .ok (.aload_n 0, 1) := by decide +kernel
theorem dX12_quarrels_1 : decode cX12_quarrels 1 = .ok (.iconst 0, 1) := by decide +kernel
theorem dX12_quarrels_2 : decode cX12_quarrels 2 = .ok (.putfield 1, 3) := by decide +kernel
theorem dX12_quarrels_5 : decode cX12_quarrels 5 = .ok (.aload_n 0, 1) := by decide +kernel
theorem dX12_quarrels_6 : decode cX12_quarrels 6 = .ok (.iconst 0, 1) := by decide +kernel
theorem dX12_quarrels_7 : decode cX12_quarrels 7 = .ok (.invokevirtual 392, 3) := by decide +kernel
theorem dX12_quarrels_10 : decode cX12_quarrels 10 = .ok (.ireturn, 1) := by decide +kernel
noncomputable def FX12_quarrels (a0 : Nat) : PP Int32 := bd (sI a0 0 (0 : Int32)) (fun (_ : Unit) => bd (FX12_crossings a0 (0 : Int32)) (fun x1 => pu x1))
set_option maxHeartbeats 4000000 in
set_option maxRecDepth 100000 in
theorem SX12_quarrels {l : Launch} {K : KK} {n : Nat} {hn : 270 ≤ n} (a0 : Nat) (h0 : ob a0 11) : CT l K n 4 mX12_quarrels [.ref (K.2.1 + a0)] enI (FX12_quarrels a0) := by
  refine CT.of2 (lv2 := [(0, .ref (K.2.1 + a0))]) (by decide) rfl hn (Nat.le_of_ble_eq_true rfl) rfl (rp_id ?_)
  unfold FX12_quarrels
  refine rp_aload_n 0 dX12_quarrels_0 rfl ?_
  refine rp_iconst (0 : Int32) dX12_quarrels_1 (by decide) ?_
  refine rp_putI fi_X12_1 fp_X12_0 h0 rfl dX12_quarrels_2 ?_
  refine rp_aload_n 0 dX12_quarrels_5 rfl ?_
  refine rp_iconst (0 : Int32) dX12_quarrels_6 (by decide) ?_
  refine rp_callVi [.int (0 : Int32)] (SX12_crossings (hn := hn) a0 (0 : Int32) h0) cvX12_crossings (mw (i := 1753) (by decide +kernel)) (by omega) h0 (by decide) rfl rfl rfl (Nat.le_of_ble_eq_true rfl) dX12_quarrels_7 (fun x1 => ?_)
  exact rp_pu (rp_iret rfl dX12_quarrels_10)

theorem dX12_best_0 : decode cX12_best 0 = .ok (.aload_n 0, 1) := by decide +kernel
theorem dX12_best_1 : decode cX12_best 1 = .ok (.iconst 0, 1) := by decide +kernel
theorem dX12_best_2 : decode cX12_best 2 = .ok (.putfield 1, 3) := by decide +kernel
theorem dX12_best_5 : decode cX12_best 5 = .ok (.aload_n 0, 1) := by decide +kernel
theorem dX12_best_6 : decode cX12_best 6 = .ok (.iload_n 1, 1) := by decide +kernel
theorem dX12_best_7 : decode cX12_best 7 = .ok (.invokevirtual 322, 3) := by decide +kernel
theorem dX12_best_10 : decode cX12_best 10 = .ok (.ifCond .eq 12, 3) := by decide +kernel
theorem dX12_best_13 : decode cX12_best 13 = .ok (.aload_n 0, 1) := by decide +kernel
theorem dX12_best_14 : decode cX12_best 14 = .ok (.iconst 0, 1) := by decide +kernel
theorem dX12_best_15 : decode cX12_best 15 = .ok (.iload_n 1, 1) := by decide +kernel
theorem dX12_best_16 : decode cX12_best 16 = .ok (.invokevirtual 294, 3) := by decide +kernel
theorem dX12_best_19 : decode cX12_best 19 = .ok (.ifCond .eq 5, 3) := by decide +kernel
theorem dX12_best_22 : decode cX12_best 22 = .ok (.iconst (-1), 1) := by decide +kernel
theorem dX12_best_23 : decode cX12_best 23 = .ok (.ireturn, 1) := by decide +kernel
theorem dX12_best_24 : decode cX12_best 24 = .ok (.iconst (-1), 1) := by decide +kernel
theorem dX12_best_25 : decode cX12_best 25 = .ok (.istore_n 2, 1) := by decide +kernel
theorem dX12_best_26 : decode cX12_best 26 = .ok (.iconst 0, 1) := by decide +kernel
theorem dX12_best_27 : decode cX12_best 27 = .ok (.istore_n 3, 1) := by decide +kernel
theorem dX12_best_28 : decode cX12_best 28 = .ok (.iconst 0, 1) := by decide +kernel
theorem dX12_best_29 : decode cX12_best 29 = .ok (.istore 4, 2) := by decide +kernel
theorem dX12_best_31 : decode cX12_best 31 = .ok (.iload 4, 2) := by decide +kernel
theorem dX12_best_33 : decode cX12_best 33 = .ok (.aload_n 0, 1) := by decide +kernel
theorem dX12_best_34 : decode cX12_best 34 = .ok (.invokevirtual 285, 3) := by decide +kernel
theorem dX12_best_37 : decode cX12_best 37 = .ok (.if_icmp .ge 118, 3) := by decide +kernel
theorem dX12_best_40 : decode cX12_best 40 = .ok (.iconst 0, 1) := by decide +kernel
theorem dX12_best_41 : decode cX12_best 41 = .ok (.istore 5, 2) := by decide +kernel
theorem dX12_best_43 : decode cX12_best 43 = .ok (.aload_n 0, 1) := by decide +kernel
theorem dX12_best_44 : decode cX12_best 44 = .ok (.invokevirtual 355, 3) := by decide +kernel
theorem dX12_best_47 : decode cX12_best 47 = .ok (.aload_n 0, 1) := by decide +kernel
theorem dX12_best_48 : decode cX12_best 48 = .ok (.sipush 882, 3) := by decide +kernel
theorem dX12_best_51 : decode cX12_best 51 = .ok (.iload_n 1, 1) := by decide +kernel
theorem dX12_best_52 : decode cX12_best 52 = .ok (.iload 4, 2) := by decide +kernel
theorem dX12_best_54 : decode cX12_best 54 = .ok (.iconst 1, 1) := by decide +kernel
theorem dX12_best_55 : decode cX12_best 55 = .ok (.invokevirtual 338, 3) := by decide +kernel
theorem dX12_best_58 : decode cX12_best 58 = .ok (.iconst 0, 1) := by decide +kernel
theorem dX12_best_59 : decode cX12_best 59 = .ok (.istore 6, 2) := by decide +kernel
theorem dX12_best_61 : decode cX12_best 61 = .ok (.iload 6, 2) := by decide +kernel
theorem dX12_best_63 : decode cX12_best 63 = .ok (.aload_n 0, 1) := by decide +kernel
theorem dX12_best_64 : decode cX12_best 64 = .ok (.invokevirtual 288, 3) := by decide +kernel
theorem dX12_best_67 : decode cX12_best 67 = .ok (.if_icmp .ge 38, 3) := by decide +kernel
theorem dX12_best_70 : decode cX12_best 70 = .ok (.iload 5, 2) := by decide +kernel
theorem dX12_best_72 : decode cX12_best 72 = .ok (.aload_n 0, 1) := by decide +kernel
theorem dX12_best_73 : decode cX12_best 73 = .ok (.iconst 0, 1) := by decide +kernel
theorem dX12_best_74 : decode cX12_best 74 = .ok (.iload 6, 2) := by decide +kernel
theorem dX12_best_76 : decode cX12_best 76 = .ok (.invokevirtual 307, 3) := by decide +kernel
theorem dX12_best_79 : decode cX12_best 79 = .ok (.aload_n 0, 1) := by decide +kernel
theorem dX12_best_80 : decode cX12_best 80 = .ok (.sipush 882, 3) := by decide +kernel
theorem dX12_best_83 : decode cX12_best 83 = .ok (.iload 6, 2) := by decide +kernel
theorem dX12_best_85 : decode cX12_best 85 = .ok (.invokevirtual 307, 3) := by decide +kernel
theorem dX12_best_88 : decode cX12_best 88 = .ok (.if_icmp .eq 7, 3) := by decide +kernel
theorem dX12_best_91 : decode cX12_best 91 = .ok (.iconst 1, 1) := by decide +kernel
theorem dX12_best_92 : decode cX12_best 92 = .ok (.goto 4, 3) := by decide +kernel
theorem dX12_best_95 : decode cX12_best 95 = .ok (.iconst 0, 1) := by decide +kernel
theorem dX12_best_96 : decode cX12_best 96 = .ok (.iadd, 1) := by decide +kernel
theorem dX12_best_97 : decode cX12_best 97 = .ok (.istore 5, 2) := by decide +kernel
theorem dX12_best_99 : decode cX12_best 99 = .ok (.iinc 6 1, 3) := by decide +kernel
theorem dX12_best_102 : decode cX12_best 102 = .ok (.goto (-41), 3) := by decide +kernel
theorem dX12_best_105 : decode cX12_best 105 = .ok (.aload_n 0, 1) := by decide +kernel
theorem dX12_best_106 : decode cX12_best 106 = .ok (.iconst 0, 1) := by decide +kernel
theorem dX12_best_107 : decode cX12_best 107 = .ok (.iload 4, 2) := by decide +kernel
theorem dX12_best_109 : decode cX12_best 109 = .ok (.invokevirtual 313, 3) := by decide +kernel
theorem dX12_best_112 : decode cX12_best 112 = .ok (.ifCond .le 8, 3) := by decide +kernel
theorem dX12_best_115 : decode cX12_best 115 = .ok (.iload 5, 2) := by decide +kernel
theorem dX12_best_117 : decode cX12_best 117 = .ok (.goto 4, 3) := by decide +kernel
theorem dX12_best_120 : decode cX12_best 120 = .ok (.iconst 0, 1) := by decide +kernel
theorem dX12_best_121 : decode cX12_best 121 = .ok (.istore 5, 2) := by decide +kernel
theorem dX12_best_123 : decode cX12_best 123 = .ok (.iload 5, 2) := by decide +kernel
theorem dX12_best_125 : decode cX12_best 125 = .ok (.iload_n 3, 1) := by decide +kernel
theorem dX12_best_126 : decode cX12_best 126 = .ok (.if_icmp .le 8, 3) := by decide +kernel
theorem dX12_best_129 : decode cX12_best 129 = .ok (.iload 4, 2) := by decide +kernel
theorem dX12_best_131 : decode cX12_best 131 = .ok (.goto 4, 3) := by decide +kernel
theorem dX12_best_134 : decode cX12_best 134 = .ok (.iload_n 2, 1) := by decide +kernel
theorem dX12_best_135 : decode cX12_best 135 = .ok (.istore_n 2, 1) := by decide +kernel
theorem dX12_best_136 : decode cX12_best 136 = .ok (.iload 5, 2) := by decide +kernel
theorem dX12_best_138 : decode cX12_best 138 = .ok (.iload_n 3, 1) := by decide +kernel
theorem dX12_best_139 : decode cX12_best 139 = .ok (.if_icmp .le 8, 3) := by decide +kernel
theorem dX12_best_142 : decode cX12_best 142 = .ok (.iload 5, 2) := by decide +kernel
theorem dX12_best_144 : decode cX12_best 144 = .ok (.goto 4, 3) := by decide +kernel
theorem dX12_best_147 : decode cX12_best 147 = .ok (.iload_n 3, 1) := by decide +kernel
theorem dX12_best_148 : decode cX12_best 148 = .ok (.istore_n 3, 1) := by decide +kernel
theorem dX12_best_149 : decode cX12_best 149 = .ok (.iinc 4 1, 3) := by decide +kernel
theorem dX12_best_152 : decode cX12_best 152 = .ok (.goto (-121), 3) := by decide +kernel
theorem dX12_best_155 : decode cX12_best 155 = .ok (.iload_n 2, 1) := by decide +kernel
theorem dX12_best_156 : decode cX12_best 156 = .ok (.ireturn, 1) := by decide +kernel
noncomputable def FX12_best (a0 : Nat) (p1 : Int32) : PP Int32 := bd (sI a0 0 (0 : Int32)) (fun (_ : Unit) => bd (FX12_isCloth a0 p1) (fun x1 => if ((b2i x1)) = 0 then pu (-1 : Int32) else bd (FX12_doesHang a0 (0 : Int32) p1) (fun x2 => if ((b2i x2)) = 0 then bd (it (fun (s3 : Int32 × Int32 × Int32) => (bd (FX12_lines a0) (fun x4 => if x4 ≤ s3.2.2 then pu (Sum.inr s3.1) else bd (FX12_triesNow a0) (fun (_ : Unit) => bd (FX12_hangs a0 (882 : Int32) p1 s3.2.2 (1 : Int32)) (fun (_ : Unit) => bd (it (fun (s7 : Int32 × Int32) => (bd (FX12_places a0) (fun x8 => if x8 ≤ s7.2 then pu (Sum.inr s7.1) else bd (FX12_weatherOf a0 (0 : Int32) s7.2) (fun x9 => bd (FX12_weatherOf a0 (882 : Int32) s7.2) (fun x10 => bd (if x9 = x10 then pu (0 : Int32) else pu (1 : Int32) : PP (Int32)) (fun (v11 : Int32) => lt (s7.1 + v11) (fun y12 => lt (s7.2 + (1 : Int32)) (fun y13 => pu (Sum.inl (y12, y13)))))))) : PP ((Int32 × Int32) ⊕ (Int32)))) FU ((0 : Int32), (0 : Int32))) (fun (v14 : Int32) => bd (FX12_freeOf a0 (0 : Int32) s3.2.2) (fun x15 => bd (if x15 ≤ 0 then pu (0 : Int32) else pu v14 : PP (Int32)) (fun (v16 : Int32) => bd (if v16 ≤ s3.2.1 then pu s3.1 else pu s3.2.2 : PP (Int32)) (fun (v17 : Int32) => bd (if v16 ≤ s3.2.1 then pu s3.2.1 else pu v16 : PP (Int32)) (fun (v18 : Int32) => lt (s3.2.2 + (1 : Int32)) (fun y19 => pu (Sum.inl (v17, v18, y19))))))))))) : PP ((Int32 × Int32 × Int32) ⊕ (Int32)))) FU ((-1 : Int32), (0 : Int32), (0 : Int32))) (fun (v20 : Int32) => pu v20) else pu (-1 : Int32))))
set_option maxHeartbeats 4000000 in
set_option maxRecDepth 100000 in
theorem SX12_best {l : Launch} {K : KK} {n : Nat} {hn : 270 ≤ n} (a0 : Nat) (p1 : Int32) (h0 : ob a0 11) : CT l K n 4 mX12_best [.ref (K.2.1 + a0), .int p1] enI (FX12_best a0 p1) := by
  refine CT.of2 (lv2 := [(0, .ref (K.2.1 + a0)), (1, .int p1)]) (by decide) rfl hn (Nat.le_of_ble_eq_true rfl) rfl (rp_id ?_)
  unfold FX12_best
  refine rp_aload_n 0 dX12_best_0 rfl ?_
  refine rp_iconst (0 : Int32) dX12_best_1 (by decide) ?_
  refine rp_putI fi_X12_1 fp_X12_0 h0 rfl dX12_best_2 ?_
  refine rp_aload_n 0 dX12_best_5 rfl ?_
  refine rp_iload_n 1 dX12_best_6 rfl ?_
  refine rp_callVz [.int p1] (SX12_isCloth (hn := hn) a0 p1 h0) cvX12_isCloth (mw (i := 1571) (by decide +kernel)) (by omega) h0 (by decide) rfl rfl rfl (Nat.le_of_ble_eq_true rfl) dX12_best_7 (fun x1 => ?_)
  refine rp_if_eq 22 dX12_best_10 (by decide) ?_ ?_
  · refine rp_iconst (-1 : Int32) dX12_best_22 (by decide) ?_
    exact rp_pu (rp_iret rfl dX12_best_23)
  · refine rp_aload_n 0 dX12_best_13 rfl ?_
    refine rp_iconst (0 : Int32) dX12_best_14 (by decide) ?_
    refine rp_iload_n 1 dX12_best_15 rfl ?_
    refine rp_callVz [.int (0 : Int32), .int p1] (SX12_doesHang (hn := hn) a0 (0 : Int32) p1 h0) cvX12_doesHang (mw (i := 1599) (by decide +kernel)) (by omega) h0 (by decide) rfl rfl rfl (Nat.le_of_ble_eq_true rfl) dX12_best_16 (fun x2 => ?_)
    refine rp_if_eq 24 dX12_best_19 (by decide) ?_ ?_
    · refine rp_iconst (-1 : Int32) dX12_best_24 (by decide) ?_
      refine rp_istore_n [(2, .int (-1 : Int32)), (0, .ref (K.2.1 + a0)), (1, .int p1)] dX12_best_25 (by decide) rfl ?_
      refine rp_iconst (0 : Int32) dX12_best_26 (by decide) ?_
      refine rp_istore_n [(3, .int (0 : Int32)), (2, .int (-1 : Int32)), (0, .ref (K.2.1 + a0)), (1, .int p1)] dX12_best_27 (by decide) rfl ?_
      refine rp_iconst (0 : Int32) dX12_best_28 (by decide) ?_
      refine rp_istore [(4, .int (0 : Int32)), (3, .int (0 : Int32)), (2, .int (-1 : Int32)), (0, .ref (K.2.1 + a0)), (1, .int p1)] dX12_best_29 (by decide) rfl ?_
      refine rp_as ?_
      refine rp_join 155 (fun v20 => [(2, .int v20)]) (fun _ => []) (fun v20 => ?_) (fun hX31_0 => ?_)
      · refine rp_iload_n 0 dX12_best_155 rfl ?_
        exact rp_pu (rp_iret rfl dX12_best_156)
      refine rp_sub [3, 4, 2, 1, 0] rfl (rp_it (fun (s3 : Int32 × Int32 × Int32) => [(0, .ref (K.2.1 + a0)), (1, .int p1), (2, .int s3.1), (3, .int s3.2.1), (4, .int s3.2.2)]) (fun N31 ih31 s3 => ?_) FU ((-1 : Int32), (0 : Int32), (0 : Int32)))
      refine rp_iload 4 dX12_best_31 rfl ?_
      refine rp_aload_n 0 dX12_best_33 rfl ?_
      refine rp_callVi [] (SX12_lines (hn := hn) a0 h0) cvX12_lines (mw (i := 1551) (by decide +kernel)) (by omega) h0 (by decide) rfl rfl rfl (Nat.le_of_ble_eq_true rfl) dX12_best_34 (fun x4 => ?_)
      refine rp_icmp_ge 155 dX12_best_37 (by decide) ?_ ?_
      · exact rp_sub [2] rfl (rp_puR (hX31_0 s3.1))
      · refine rp_iconst (0 : Int32) dX12_best_40 (by decide) ?_
        refine rp_istore [(5, .int (0 : Int32)), (0, .ref (K.2.1 + a0)), (1, .int p1), (2, .int s3.1), (3, .int s3.2.1), (4, .int s3.2.2)] dX12_best_41 (by decide) rfl ?_
        refine rp_aload_n 1 dX12_best_43 rfl ?_
        refine rp_callVv [] (SX12_triesNow (hn := hn) a0 h0) cvX12_triesNow (mw (i := 1678) (by decide +kernel)) (by omega) h0 (by decide) rfl rfl rfl (Nat.le_of_ble_eq_true rfl) dX12_best_44 (fun x5 => ?_)
        refine rp_aload_n 1 dX12_best_47 rfl ?_
        refine rp_sipush (882 : Int32) dX12_best_48 (by decide) ?_
        refine rp_iload_n 2 dX12_best_51 rfl ?_
        refine rp_iload 5 dX12_best_52 rfl ?_
        refine rp_iconst (1 : Int32) dX12_best_54 (by decide) ?_
        refine rp_callVv [.int (882 : Int32), .int p1, .int s3.2.2, .int (1 : Int32)] (SX12_hangs (hn := hn) a0 (882 : Int32) p1 s3.2.2 (1 : Int32) h0) cvX12_hangs (mw (i := 1627) (by decide +kernel)) (by omega) h0 (by decide) rfl rfl rfl (Nat.le_of_ble_eq_true rfl) dX12_best_55 (fun x6 => ?_)
        refine rp_iconst (0 : Int32) dX12_best_58 (by decide) ?_
        refine rp_istore [(6, .int (0 : Int32)), (5, .int (0 : Int32)), (0, .ref (K.2.1 + a0)), (1, .int p1), (2, .int s3.1), (3, .int s3.2.1), (4, .int s3.2.2)] dX12_best_59 (by decide) rfl ?_
        refine rp_as ?_
        refine rp_join 105 (fun v14 => [(0, .ref (K.2.1 + a0)), (1, .int p1), (2, .int s3.1), (3, .int s3.2.1), (4, .int s3.2.2), (5, .int v14)]) (fun _ => []) (fun v14 => ?_) (fun hX61_0 => ?_)
        · refine rp_aload_n 0 dX12_best_105 rfl ?_
          refine rp_iconst (0 : Int32) dX12_best_106 (by decide) ?_
          refine rp_iload 4 dX12_best_107 rfl ?_
          refine rp_callVi [.int (0 : Int32), .int s3.2.2] (SX12_freeOf (hn := hn) a0 (0 : Int32) s3.2.2 h0) cvX12_freeOf (mw (i := 1559) (by decide +kernel)) (by omega) h0 (by decide) rfl rfl rfl (Nat.le_of_ble_eq_true rfl) dX12_best_109 (fun x15 => ?_)
          refine rp_as ?_
          refine rp_join 121 (fun (v16 : Int32) => [(0, .ref (K.2.1 + a0)), (1, .int p1), (2, .int s3.1), (3, .int s3.2.1), (4, .int s3.2.2)]) (fun v16 => [.int v16]) (fun v16 => ?_) (fun hJ121 => ?_)
          · refine rp_istore [(5, .int v16), (0, .ref (K.2.1 + a0)), (1, .int p1), (2, .int s3.1), (3, .int s3.2.1), (4, .int s3.2.2)] dX12_best_121 (by decide) rfl ?_
            refine rp_iload 0 dX12_best_123 rfl ?_
            refine rp_iload_n 4 dX12_best_125 rfl ?_
            refine rp_as ?_
            refine rp_join 135 (fun (v17 : Int32) => [(0, .ref (K.2.1 + a0)), (1, .int p1), (3, .int s3.2.1), (4, .int s3.2.2), (5, .int v16)]) (fun v17 => [.int v17]) (fun v17 => ?_) (fun hJ135 => ?_)
            · refine rp_istore_n [(2, .int v17), (0, .ref (K.2.1 + a0)), (1, .int p1), (3, .int s3.2.1), (4, .int s3.2.2), (5, .int v16)] dX12_best_135 (by decide) rfl ?_
              refine rp_iload 5 dX12_best_136 rfl ?_
              refine rp_iload_n 3 dX12_best_138 rfl ?_
              refine rp_as ?_
              refine rp_join 148 (fun (v18 : Int32) => [(0, .ref (K.2.1 + a0)), (1, .int p1), (2, .int v17), (4, .int s3.2.2)]) (fun v18 => [.int v18]) (fun v18 => ?_) (fun hJ148 => ?_)
              · refine rp_istore_n [(3, .int v18), (0, .ref (K.2.1 + a0)), (1, .int p1), (2, .int v17), (4, .int s3.2.2)] dX12_best_148 (by decide) rfl ?_
                refine rp_iinc (fun y19 => [(4, .int y19), (3, .int v18), (0, .ref (K.2.1 + a0)), (1, .int p1), (2, .int v17)]) 4 dX12_best_149 rfl (by rfl) (by decide) (fun y19 => rfl) (fun y19 => ?_)
                refine rp_goto 31 dX12_best_152 (by decide) ?_
                exact rp_sub [2, 3, 4, 1, 0] rfl (ih31 (v17, v18, y19))
              refine rp_icmp_le 147 dX12_best_139 (by decide) ?_ ?_
              · refine rp_iload_n 3 dX12_best_147 rfl ?_
                exact rp_sub [1, 2, 0, 4] rfl (rp_pu (hJ148 s3.2.1))
              · refine rp_iload 5 dX12_best_142 rfl ?_
                refine rp_goto 148 dX12_best_144 (by decide) ?_
                exact rp_sub [1, 2, 0, 4] rfl (rp_pu (hJ148 v16))
            refine rp_icmp_le 134 dX12_best_126 (by decide) ?_ ?_
            · refine rp_iload_n 3 dX12_best_134 rfl ?_
              exact rp_sub [1, 2, 4, 5, 0] rfl (rp_pu (hJ135 s3.1))
            · refine rp_iload 5 dX12_best_129 rfl ?_
              refine rp_goto 135 dX12_best_131 (by decide) ?_
              exact rp_sub [1, 2, 4, 5, 0] rfl (rp_pu (hJ135 s3.2.2))
          refine rp_if_le 120 dX12_best_112 (by decide) ?_ ?_
          · refine rp_iconst (0 : Int32) dX12_best_120 (by decide) ?_
            exact rp_sub [0, 1, 2, 3, 4] rfl (rp_pu (hJ121 (0 : Int32)))
          · refine rp_iload 5 dX12_best_115 rfl ?_
            refine rp_goto 121 dX12_best_117 (by decide) ?_
            exact rp_sub [0, 1, 2, 3, 4] rfl (rp_pu (hJ121 v14))
        refine rp_sub [2, 3, 4, 5, 6, 1, 0] rfl (rp_it (fun (s7 : Int32 × Int32) => [(0, .ref (K.2.1 + a0)), (1, .int p1), (2, .int s3.1), (3, .int s3.2.1), (4, .int s3.2.2), (5, .int s7.1), (6, .int s7.2)]) (fun N61 ih61 s7 => ?_) FU ((0 : Int32), (0 : Int32)))
        refine rp_iload 6 dX12_best_61 rfl ?_
        refine rp_aload_n 0 dX12_best_63 rfl ?_
        refine rp_callVi [] (SX12_places (hn := hn) a0 h0) cvX12_places (mw (i := 1583) (by decide +kernel)) (by omega) h0 (by decide) rfl rfl rfl (Nat.le_of_ble_eq_true rfl) dX12_best_64 (fun x8 => ?_)
        refine rp_icmp_ge 105 dX12_best_67 (by decide) ?_ ?_
        · exact rp_sub [0, 1, 2, 3, 4, 5] rfl (rp_puR (hX61_0 s7.1))
        · refine rp_iload 5 dX12_best_70 rfl ?_
          refine rp_aload_n 0 dX12_best_72 rfl ?_
          refine rp_iconst (0 : Int32) dX12_best_73 (by decide) ?_
          refine rp_iload 6 dX12_best_74 rfl ?_
          refine rp_callVi [.int (0 : Int32), .int s7.2] (SX12_weatherOf (hn := hn) a0 (0 : Int32) s7.2 h0) cvX12_weatherOf (mw (i := 1587) (by decide +kernel)) (by omega) h0 (by decide) rfl rfl rfl (Nat.le_of_ble_eq_true rfl) dX12_best_76 (fun x9 => ?_)
          refine rp_aload_n 0 dX12_best_79 rfl ?_
          refine rp_sipush (882 : Int32) dX12_best_80 (by decide) ?_
          refine rp_iload 6 dX12_best_83 rfl ?_
          refine rp_callVi [.int (882 : Int32), .int s7.2] (SX12_weatherOf (hn := hn) a0 (882 : Int32) s7.2 h0) cvX12_weatherOf (mw (i := 1587) (by decide +kernel)) (by omega) h0 (by decide) rfl rfl rfl (Nat.le_of_ble_eq_true rfl) dX12_best_85 (fun x10 => ?_)
          refine rp_as ?_
          refine rp_join 96 (fun (v11 : Int32) => [(0, .ref (K.2.1 + a0)), (1, .int p1), (2, .int s3.1), (3, .int s3.2.1), (4, .int s3.2.2), (6, .int s7.2)]) (fun v11 => [.int v11, .int s7.1]) (fun v11 => ?_) (fun hJ96 => ?_)
          · refine rp_iadd dX12_best_96 ?_
            refine rp_lti (fun y12 => ?_)
            refine rp_istore [(5, .int y12), (0, .ref (K.2.1 + a0)), (1, .int p1), (2, .int s3.1), (3, .int s3.2.1), (4, .int s3.2.2), (6, .int s7.2)] dX12_best_97 (by decide) rfl ?_
            refine rp_iinc (fun y13 => [(6, .int y13), (5, .int y12), (0, .ref (K.2.1 + a0)), (1, .int p1), (2, .int s3.1), (3, .int s3.2.1), (4, .int s3.2.2)]) 6 dX12_best_99 rfl (by rfl) (by decide) (fun y13 => rfl) (fun y13 => ?_)
            refine rp_goto 61 dX12_best_102 (by decide) ?_
            exact rp_sub [2, 3, 4, 5, 6, 1, 0] rfl (ih61 (y12, y13))
          refine rp_icmp_eq 95 dX12_best_88 (by decide) ?_ ?_
          · refine rp_iconst (0 : Int32) dX12_best_95 (by decide) ?_
            exact rp_sub [0, 1, 2, 3, 4, 6] rfl (rp_pu (hJ96 (0 : Int32)))
          · refine rp_iconst (1 : Int32) dX12_best_91 (by decide) ?_
            refine rp_goto 96 dX12_best_92 (by decide) ?_
            exact rp_sub [0, 1, 2, 3, 4, 6] rfl (rp_pu (hJ96 (1 : Int32)))
    · refine rp_iconst (-1 : Int32) dX12_best_22 (by decide) ?_
      exact rp_pu (rp_iret rfl dX12_best_23)

theorem dX12_owes_0 : decode cX12_owes 0 = .ok (.aload_n 0, 1) := by decide +kernel
theorem dX12_owes_1 : decode cX12_owes 1 = .ok (.iconst 0, 1) := by decide +kernel
theorem dX12_owes_2 : decode cX12_owes 2 = .ok (.putfield 1, 3) := by decide +kernel
theorem dX12_owes_5 : decode cX12_owes 5 = .ok (.iconst 0, 1) := by decide +kernel
theorem dX12_owes_6 : decode cX12_owes 6 = .ok (.istore_n 2, 1) := by decide +kernel
theorem dX12_owes_7 : decode cX12_owes 7 = .ok (.iload_n 2, 1) := by decide +kernel
theorem dX12_owes_8 : decode cX12_owes 8 = .ok (.aload_n 0, 1) := by decide +kernel
theorem dX12_owes_9 : decode cX12_owes 9 = .ok (.invokevirtual 269, 3) := by decide +kernel
theorem dX12_owes_12 : decode cX12_owes 12 = .ok (.if_icmp .ge 48, 3) := by decide +kernel
theorem dX12_owes_15 : decode cX12_owes 15 = .ok (.aload_n 0, 1) := by decide +kernel
theorem dX12_owes_16 : decode cX12_owes 16 = .ok (.iload_n 1, 1) := by decide +kernel
theorem dX12_owes_17 : decode cX12_owes 17 = .ok (.invokevirtual 325, 3) := by decide +kernel
theorem dX12_owes_20 : decode cX12_owes 20 = .ok (.ifCond .eq 40, 3) := by decide +kernel
theorem dX12_owes_23 : decode cX12_owes 23 = .ok (.aload_n 0, 1) := by decide +kernel
theorem dX12_owes_24 : decode cX12_owes 24 = .ok (.invokevirtual 355, 3) := by decide +kernel
theorem dX12_owes_27 : decode cX12_owes 27 = .ok (.aload_n 0, 1) := by decide +kernel
theorem dX12_owes_28 : decode cX12_owes 28 = .ok (.sipush 882, 3) := by decide +kernel
theorem dX12_owes_31 : decode cX12_owes 31 = .ok (.iload_n 2, 1) := by decide +kernel
theorem dX12_owes_32 : decode cX12_owes 32 = .ok (.invokevirtual 342, 3) := by decide +kernel
theorem dX12_owes_35 : decode cX12_owes 35 = .ok (.aload_n 0, 1) := by decide +kernel
theorem dX12_owes_36 : decode cX12_owes 36 = .ok (.sipush 882, 3) := by decide +kernel
theorem dX12_owes_39 : decode cX12_owes 39 = .ok (.iload_n 1, 1) := by decide +kernel
theorem dX12_owes_40 : decode cX12_owes 40 = .ok (.invokevirtual 307, 3) := by decide +kernel
theorem dX12_owes_43 : decode cX12_owes 43 = .ok (.aload_n 0, 1) := by decide +kernel
theorem dX12_owes_44 : decode cX12_owes 44 = .ok (.iconst 0, 1) := by decide +kernel
theorem dX12_owes_45 : decode cX12_owes 45 = .ok (.iload_n 1, 1) := by decide +kernel
theorem dX12_owes_46 : decode cX12_owes 46 = .ok (.invokevirtual 307, 3) := by decide +kernel
theorem dX12_owes_49 : decode cX12_owes 49 = .ok (.if_icmp .eq 5, 3) := by decide +kernel
theorem dX12_owes_52 : decode cX12_owes 52 = .ok (.iload_n 2, 1) := by decide +kernel
theorem dX12_owes_53 : decode cX12_owes 53 = .ok (.ireturn, 1) := by decide +kernel
theorem dX12_owes_54 : decode cX12_owes 54 = .ok (.iinc 2 1, 3) := by decide +kernel
theorem dX12_owes_57 : decode cX12_owes 57 = .ok (.goto (-50), 3) := by decide +kernel
theorem dX12_owes_60 : decode cX12_owes 60 = .ok (.iconst (-1), 1) := by decide +kernel
theorem dX12_owes_61 : decode cX12_owes 61 = .ok (.ireturn, 1) := by decide +kernel
noncomputable def FX12_owes (a0 : Nat) (p1 : Int32) : PP Int32 := bd (sI a0 0 (0 : Int32)) (fun (_ : Unit) => bd (it (fun (s1 : Int32) => (bd (FX12_cloths a0) (fun x2 => if x2 ≤ s1 then pu (Sum.inr (Sum.inl ())) else bd (FX12_isPlace a0 p1) (fun x3 => if ((b2i x3)) = 0 then pu (Sum.inr (Sum.inl ())) else bd (FX12_triesNow a0) (fun (_ : Unit) => bd (FX12_comesDown a0 (882 : Int32) s1) (fun (_ : Unit) => bd (FX12_weatherOf a0 (882 : Int32) p1) (fun x6 => bd (FX12_weatherOf a0 (0 : Int32) p1) (fun x7 => if x6 = x7 then lt (s1 + (1 : Int32)) (fun y8 => pu (Sum.inl y8)) else pu (Sum.inr (Sum.inr (s1))))))))) : PP ((Int32) ⊕ ((Unit) ⊕ (Int32))))) FU (0 : Int32)) (Sum.elim (fun (v9 : Unit) => pu (-1 : Int32)) (fun (v10 : Int32) => pu v10)))
set_option maxHeartbeats 4000000 in
set_option maxRecDepth 100000 in
theorem SX12_owes {l : Launch} {K : KK} {n : Nat} {hn : 270 ≤ n} (a0 : Nat) (p1 : Int32) (h0 : ob a0 11) : CT l K n 4 mX12_owes [.ref (K.2.1 + a0), .int p1] enI (FX12_owes a0 p1) := by
  refine CT.of2 (lv2 := [(0, .ref (K.2.1 + a0)), (1, .int p1)]) (by decide) rfl hn (Nat.le_of_ble_eq_true rfl) rfl (rp_id ?_)
  unfold FX12_owes
  refine rp_aload_n 0 dX12_owes_0 rfl ?_
  refine rp_iconst (0 : Int32) dX12_owes_1 (by decide) ?_
  refine rp_putI fi_X12_1 fp_X12_0 h0 rfl dX12_owes_2 ?_
  refine rp_iconst (0 : Int32) dX12_owes_5 (by decide) ?_
  refine rp_istore_n [(2, .int (0 : Int32)), (0, .ref (K.2.1 + a0)), (1, .int p1)] dX12_owes_6 (by decide) rfl ?_
  refine rp_as ?_
  refine rp_join2 60 (fun v9 => []) (fun _ => []) 52 (fun v10 => [(2, .int v10)]) (fun _ => []) (fun v9 => ?_) (fun v10 => ?_) (fun hX7_0 hX7_1 => ?_)
  · refine rp_iconst (-1 : Int32) dX12_owes_60 (by decide) ?_
    exact rp_pu (rp_iret rfl dX12_owes_61)
  · refine rp_iload_n 0 dX12_owes_52 rfl ?_
    exact rp_pu (rp_iret rfl dX12_owes_53)
  refine rp_sub [1, 2, 0] rfl (rp_it (fun (s1 : Int32) => [(0, .ref (K.2.1 + a0)), (1, .int p1), (2, .int s1)]) (fun N7 ih7 s1 => ?_) FU (0 : Int32))
  refine rp_iload_n 2 dX12_owes_7 rfl ?_
  refine rp_aload_n 0 dX12_owes_8 rfl ?_
  refine rp_callVi [] (SX12_cloths (hn := hn) a0 h0) cvX12_cloths (mw (i := 1306) (by decide +kernel)) (by omega) h0 (by decide) rfl rfl rfl (Nat.le_of_ble_eq_true rfl) dX12_owes_9 (fun x2 => ?_)
  refine rp_icmp_ge 60 dX12_owes_12 (by decide) ?_ ?_
  · exact rp_sub [] rfl (rp_puRL (hX7_0 ()))
  · refine rp_aload_n 0 dX12_owes_15 rfl ?_
    refine rp_iload_n 1 dX12_owes_16 rfl ?_
    refine rp_callVz [.int p1] (SX12_isPlace (hn := hn) a0 p1 h0) cvX12_isPlace (mw (i := 1579) (by decide +kernel)) (by omega) h0 (by decide) rfl rfl rfl (Nat.le_of_ble_eq_true rfl) dX12_owes_17 (fun x3 => ?_)
    refine rp_if_eq 60 dX12_owes_20 (by decide) ?_ ?_
    · exact rp_sub [] rfl (rp_puRL (hX7_0 ()))
    · refine rp_aload_n 0 dX12_owes_23 rfl ?_
      refine rp_callVv [] (SX12_triesNow (hn := hn) a0 h0) cvX12_triesNow (mw (i := 1678) (by decide +kernel)) (by omega) h0 (by decide) rfl rfl rfl (Nat.le_of_ble_eq_true rfl) dX12_owes_24 (fun x4 => ?_)
      refine rp_aload_n 0 dX12_owes_27 rfl ?_
      refine rp_sipush (882 : Int32) dX12_owes_28 (by decide) ?_
      refine rp_iload_n 2 dX12_owes_31 rfl ?_
      refine rp_callVv [.int (882 : Int32), .int s1] (SX12_comesDown (hn := hn) a0 (882 : Int32) s1 h0) cvX12_comesDown (mw (i := 1635) (by decide +kernel)) (by omega) h0 (by decide) rfl rfl rfl (Nat.le_of_ble_eq_true rfl) dX12_owes_32 (fun x5 => ?_)
      refine rp_aload_n 0 dX12_owes_35 rfl ?_
      refine rp_sipush (882 : Int32) dX12_owes_36 (by decide) ?_
      refine rp_iload_n 1 dX12_owes_39 rfl ?_
      refine rp_callVi [.int (882 : Int32), .int p1] (SX12_weatherOf (hn := hn) a0 (882 : Int32) p1 h0) cvX12_weatherOf (mw (i := 1587) (by decide +kernel)) (by omega) h0 (by decide) rfl rfl rfl (Nat.le_of_ble_eq_true rfl) dX12_owes_40 (fun x6 => ?_)
      refine rp_aload_n 0 dX12_owes_43 rfl ?_
      refine rp_iconst (0 : Int32) dX12_owes_44 (by decide) ?_
      refine rp_iload_n 1 dX12_owes_45 rfl ?_
      refine rp_callVi [.int (0 : Int32), .int p1] (SX12_weatherOf (hn := hn) a0 (0 : Int32) p1 h0) cvX12_weatherOf (mw (i := 1587) (by decide +kernel)) (by omega) h0 (by decide) rfl rfl rfl (Nat.le_of_ble_eq_true rfl) dX12_owes_46 (fun x7 => ?_)
      refine rp_icmp_eq 54 dX12_owes_49 (by decide) ?_ ?_
      · refine rp_iinc (fun y8 => [(2, .int y8), (0, .ref (K.2.1 + a0)), (1, .int p1)]) 2 dX12_owes_54 rfl (by rfl) (by decide) (fun y8 => rfl) (fun y8 => ?_)
        refine rp_goto 7 dX12_owes_57 (by decide) ?_
        exact rp_sub [1, 2, 0] rfl (ih7 y8)
      · exact rp_sub [2] rfl (rp_puRR (hX7_1 s1))
