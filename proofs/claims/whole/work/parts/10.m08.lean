theorem dX12_toldHere_0 : decode cX12_toldHere 0 = .ok (.aload_n 0, 1) := by decide +kernel
theorem dX12_toldHere_1 : decode cX12_toldHere 1 = .ok (.getfield 162, 3) := by decide +kernel
theorem dX12_toldHere_4 : decode cX12_toldHere 4 = .ok (.ifCond .ne 15, 3) := by decide +kernel
theorem dX12_toldHere_7 : decode cX12_toldHere 7 = .ok (.aload_n 0, 1) := by decide +kernel
theorem dX12_toldHere_8 : decode cX12_toldHere 8 = .ok (.invokevirtual 193, 3) := by decide +kernel
theorem dX12_toldHere_11 : decode cX12_toldHere 11 = .ok (.ifCond .ne 8, 3) := by decide +kernel
theorem dX12_toldHere_14 : decode cX12_toldHere 14 = .ok (.aload_n 0, 1) := by decide +kernel
theorem dX12_toldHere_15 : decode cX12_toldHere 15 = .ok (.iconst 1, 1) := by decide +kernel
theorem dX12_toldHere_16 : decode cX12_toldHere 16 = .ok (.invokevirtual 168, 3) := by decide +kernel
theorem dX12_toldHere_19 : decode cX12_toldHere 19 = .ok (.aload_n 0, 1) := by decide +kernel
theorem dX12_toldHere_20 : decode cX12_toldHere 20 = .ok (.getfield 162, 3) := by decide +kernel
theorem dX12_toldHere_23 : decode cX12_toldHere 23 = .ok (.ifCond .le 7, 3) := by decide +kernel
theorem dX12_toldHere_26 : decode cX12_toldHere 26 = .ok (.iconst (-1), 1) := by decide +kernel
theorem dX12_toldHere_27 : decode cX12_toldHere 27 = .ok (.goto 10, 3) := by decide +kernel
theorem dX12_toldHere_30 : decode cX12_toldHere 30 = .ok (.aload_n 0, 1) := by decide +kernel
theorem dX12_toldHere_31 : decode cX12_toldHere 31 = .ok (.iload_n 1, 1) := by decide +kernel
theorem dX12_toldHere_32 : decode cX12_toldHere 32 = .ok (.invokevirtual 197, 3) := by decide +kernel
theorem dX12_toldHere_35 : decode cX12_toldHere 35 = .ok (.iload_n 2, 1) := by decide +kernel
theorem dX12_toldHere_36 : decode cX12_toldHere 36 = .ok (.isub, 1) := by decide +kernel
theorem dX12_toldHere_37 : decode cX12_toldHere 37 = .ok (.istore_n 3, 1) := by decide +kernel
theorem dX12_toldHere_38 : decode cX12_toldHere 38 = .ok (.aload_n 0, 1) := by decide +kernel
theorem dX12_toldHere_39 : decode cX12_toldHere 39 = .ok (.getfield 162, 3) := by decide +kernel
theorem dX12_toldHere_42 : decode cX12_toldHere 42 = .ok (.ifCond .ne 17, 3) := by decide +kernel
theorem dX12_toldHere_45 : decode cX12_toldHere 45 = .ok (.iload_n 3, 1) := by decide +kernel
theorem dX12_toldHere_46 : decode cX12_toldHere 46 = .ok (.iconst 0, 1) := by decide +kernel
theorem dX12_toldHere_47 : decode cX12_toldHere 47 = .ok (.iconst 5, 1) := by decide +kernel
theorem dX12_toldHere_48 : decode cX12_toldHere 48 = .ok (.invokestatic 201, 3) := by decide +kernel
theorem dX12_toldHere_51 : decode cX12_toldHere 51 = .ok (.ifCond .ne 8, 3) := by decide +kernel
theorem dX12_toldHere_54 : decode cX12_toldHere 54 = .ok (.aload_n 0, 1) := by decide +kernel
theorem dX12_toldHere_55 : decode cX12_toldHere 55 = .ok (.iconst 2, 1) := by decide +kernel
theorem dX12_toldHere_56 : decode cX12_toldHere 56 = .ok (.invokevirtual 168, 3) := by decide +kernel
theorem dX12_toldHere_59 : decode cX12_toldHere 59 = .ok (.aload_n 0, 1) := by decide +kernel
theorem dX12_toldHere_60 : decode cX12_toldHere 60 = .ok (.getfield 162, 3) := by decide +kernel
theorem dX12_toldHere_63 : decode cX12_toldHere 63 = .ok (.ifCond .le 7, 3) := by decide +kernel
theorem dX12_toldHere_66 : decode cX12_toldHere 66 = .ok (.iconst 0, 1) := by decide +kernel
theorem dX12_toldHere_67 : decode cX12_toldHere 67 = .ok (.goto 4, 3) := by decide +kernel
theorem dX12_toldHere_70 : decode cX12_toldHere 70 = .ok (.iload_n 3, 1) := by decide +kernel
theorem dX12_toldHere_71 : decode cX12_toldHere 71 = .ok (.ireturn, 1) := by decide +kernel
noncomputable def FX12_toldHere (a0 : Nat) (p1 : Int32) (p2 : Int32) : PP Int32 := bd (gI a0 8) (fun x1 => bd (if x1 = 0 then bd (FX12_isName a0) (fun x2 => if ((b2i x2)) = 0 then bd (FX12_wrong a0 (1 : Int32)) (fun (_ : Unit) => pu ()) else pu ()) else pu () : PP (Unit)) (fun (v4 : Unit) => bd (gI a0 8) (fun x5 => bd (if x5 ≤ 0 then bd (FX12_nameAt a0 p1) (fun x6 => pu (x6 - p2)) else pu (-1 : Int32) : PP (Int32)) (fun (v7 : Int32) => bd (gI a0 8) (fun x8 => bd (if x8 = 0 then bd (FX12_within v7 (0 : Int32) (5 : Int32)) (fun x9 => if ((b2i x9)) = 0 then bd (FX12_wrong a0 (2 : Int32)) (fun (_ : Unit) => pu ()) else pu ()) else pu () : PP (Unit)) (fun (v11 : Unit) => bd (gI a0 8) (fun x12 => bd (if x12 ≤ 0 then pu v7 else pu (0 : Int32) : PP (Int32)) (fun (v13 : Int32) => pu v13))))))))
set_option maxHeartbeats 4000000 in
set_option maxRecDepth 100000 in
theorem SX12_toldHere {l : Launch} {K : KK} {n : Nat} {hn : 270 ≤ n} (a0 : Nat) (p1 : Int32) (p2 : Int32) (h0 : ob a0 11) : CT l K n 3 mX12_toldHere [.ref (K.2.1 + a0), .int p1, .int p2] enI (FX12_toldHere a0 p1 p2) := by
  refine CT.of2 (lv2 := [(0, .ref (K.2.1 + a0)), (1, .int p1), (2, .int p2)]) (by decide) rfl hn (Nat.le_of_ble_eq_true rfl) rfl (rp_id ?_)
  unfold FX12_toldHere
  refine rp_aload_n 0 dX12_toldHere_0 rfl ?_
  refine rp_getI fi_X12_162 h0 rfl dX12_toldHere_1 (fun x1 => ?_)
  refine rp_as ?_
  refine rp_join 19 (fun (v4 : Unit) => [(0, .ref (K.2.1 + a0)), (1, .int p1), (2, .int p2)]) (fun v4 => []) (fun v4 => ?_) (fun hJ19 => ?_)
  · refine rp_aload_n 0 dX12_toldHere_19 rfl ?_
    refine rp_getI fi_X12_162 h0 rfl dX12_toldHere_20 (fun x5 => ?_)
    refine rp_as ?_
    refine rp_join 37 (fun (v7 : Int32) => [(0, .ref (K.2.1 + a0))]) (fun v7 => [.int v7]) (fun v7 => ?_) (fun hJ37 => ?_)
    · refine rp_istore_n [(3, .int v7), (0, .ref (K.2.1 + a0))] dX12_toldHere_37 (by decide) rfl ?_
      refine rp_aload_n 1 dX12_toldHere_38 rfl ?_
      refine rp_getI fi_X12_162 h0 rfl dX12_toldHere_39 (fun x8 => ?_)
      refine rp_as ?_
      refine rp_join 59 (fun (v11 : Unit) => [(0, .ref (K.2.1 + a0)), (3, .int v7)]) (fun v11 => []) (fun v11 => ?_) (fun hJ59 => ?_)
      · refine rp_aload_n 0 dX12_toldHere_59 rfl ?_
        refine rp_getI fi_X12_162 h0 rfl dX12_toldHere_60 (fun x12 => ?_)
        refine rp_as ?_
        refine rp_join 71 (fun (v13 : Int32) => []) (fun v13 => [.int v13]) (fun v13 => ?_) (fun hJ71 => ?_)
        · exact rp_pu (rp_iret rfl dX12_toldHere_71)
        refine rp_if_le 70 dX12_toldHere_63 (by decide) ?_ ?_
        · refine rp_iload_n 1 dX12_toldHere_70 rfl ?_
          exact rp_sub [] rfl (rp_pu (hJ71 v7))
        · refine rp_iconst (0 : Int32) dX12_toldHere_66 (by decide) ?_
          refine rp_goto 71 dX12_toldHere_67 (by decide) ?_
          exact rp_sub [] rfl (rp_pu (hJ71 (0 : Int32)))
      refine rp_if_ne 59 dX12_toldHere_42 (by decide) ?_ ?_
      · exact rp_sub [1, 0] rfl (rp_pu (hJ59 ()))
      · refine rp_iload_n 0 dX12_toldHere_45 rfl ?_
        refine rp_iconst (0 : Int32) dX12_toldHere_46 (by decide) ?_
        refine rp_iconst (5 : Int32) dX12_toldHere_47 (by decide) ?_
        refine rp_callSz [.int v7, .int (0 : Int32), .int (5 : Int32)] (SX12_within (hn := hn) v7 (0 : Int32) (5 : Int32)) csX12_within (mw (i := 1484) (by decide +kernel)) (by omega) rfl rfl (Nat.le_of_ble_eq_true rfl) dX12_toldHere_48 (fun x9 => ?_)
        refine rp_if_ne 59 dX12_toldHere_51 (by decide) ?_ ?_
        · exact rp_sub [1, 0] rfl (rp_pu (hJ59 ()))
        · refine rp_aload_n 1 dX12_toldHere_54 rfl ?_
          refine rp_iconst (2 : Int32) dX12_toldHere_55 (by decide) ?_
          refine rp_callVv [.int (2 : Int32)] (SX12_wrong (hn := hn) a0 (2 : Int32) h0) cvX12_wrong (mw (i := 1444) (by decide +kernel)) (by omega) h0 (by decide) rfl rfl rfl (Nat.le_of_ble_eq_true rfl) dX12_toldHere_56 (fun x10 => ?_)
          exact rp_sub [1, 0] rfl (rp_pu (hJ59 ()))
    refine rp_if_le 30 dX12_toldHere_23 (by decide) ?_ ?_
    · refine rp_aload_n 0 dX12_toldHere_30 rfl ?_
      refine rp_iload_n 1 dX12_toldHere_31 rfl ?_
      refine rp_callVi [.int p1] (SX12_nameAt (hn := hn) a0 p1 h0) cvX12_nameAt (mw (i := 1456) (by decide +kernel)) (by omega) h0 (by decide) rfl rfl rfl (Nat.le_of_ble_eq_true rfl) dX12_toldHere_32 (fun x6 => ?_)
      refine rp_iload_n 2 dX12_toldHere_35 rfl ?_
      refine rp_isub dX12_toldHere_36 ?_
      exact rp_sub [0] rfl (rp_pu (hJ37 (x6 - p2)))
    · refine rp_iconst (-1 : Int32) dX12_toldHere_26 (by decide) ?_
      refine rp_goto 37 dX12_toldHere_27 (by decide) ?_
      exact rp_sub [0] rfl (rp_pu (hJ37 (-1 : Int32)))
  refine rp_if_ne 19 dX12_toldHere_4 (by decide) ?_ ?_
  · exact rp_sub [0, 1, 2] rfl (rp_pu (hJ19 ()))
  · refine rp_aload_n 0 dX12_toldHere_7 rfl ?_
    refine rp_callVz [] (SX12_isName (hn := hn) a0 h0) cvX12_isName (mw (i := 1448) (by decide +kernel)) (by omega) h0 (by decide) rfl rfl rfl (Nat.le_of_ble_eq_true rfl) dX12_toldHere_8 (fun x2 => ?_)
    refine rp_if_ne 19 dX12_toldHere_11 (by decide) ?_ ?_
    · exact rp_sub [0, 1, 2] rfl (rp_pu (hJ19 ()))
    · refine rp_aload_n 0 dX12_toldHere_14 rfl ?_
      refine rp_iconst (1 : Int32) dX12_toldHere_15 (by decide) ?_
      refine rp_callVv [.int (1 : Int32)] (SX12_wrong (hn := hn) a0 (1 : Int32) h0) cvX12_wrong (mw (i := 1444) (by decide +kernel)) (by omega) h0 (by decide) rfl rfl rfl (Nat.le_of_ble_eq_true rfl) dX12_toldHere_16 (fun x3 => ?_)
      exact rp_sub [0, 1, 2] rfl (rp_pu (hJ19 ()))

theorem dX12_takeTold_0 : decode cX12_takeTold 0 = .ok (.aload_n 0, 1) := by decide +kernel
theorem dX12_takeTold_1 : decode cX12_takeTold 1 = .ok (.iload_n 1, 1) := by decide +kernel
theorem dX12_takeTold_2 : decode cX12_takeTold 2 = .ok (.iload_n 2, 1) := by decide +kernel
theorem dX12_takeTold_3 : decode cX12_takeTold 3 = .ok (.invokevirtual 205, 3) := by decide +kernel
theorem dX12_takeTold_6 : decode cX12_takeTold 6 = .ok (.istore_n 3, 1) := by decide +kernel
theorem dX12_takeTold_7 : decode cX12_takeTold 7 = .ok (.aload_n 0, 1) := by decide +kernel
theorem dX12_takeTold_8 : decode cX12_takeTold 8 = .ok (.dup, 1) := by decide +kernel
theorem dX12_takeTold_9 : decode cX12_takeTold 9 = .ok (.getfield 159, 3) := by decide +kernel
theorem dX12_takeTold_12 : decode cX12_takeTold 12 = .ok (.aload_n 0, 1) := by decide +kernel
theorem dX12_takeTold_13 : decode cX12_takeTold 13 = .ok (.getfield 162, 3) := by decide +kernel
theorem dX12_takeTold_16 : decode cX12_takeTold 16 = .ok (.ifCond .le 7, 3) := by decide +kernel
theorem dX12_takeTold_19 : decode cX12_takeTold 19 = .ok (.iconst 0, 1) := by decide +kernel
theorem dX12_takeTold_20 : decode cX12_takeTold 20 = .ok (.goto 4, 3) := by decide +kernel
theorem dX12_takeTold_23 : decode cX12_takeTold 23 = .ok (.iconst 1, 1) := by decide +kernel
theorem dX12_takeTold_24 : decode cX12_takeTold 24 = .ok (.iadd, 1) := by decide +kernel
theorem dX12_takeTold_25 : decode cX12_takeTold 25 = .ok (.putfield 159, 3) := by decide +kernel
theorem dX12_takeTold_28 : decode cX12_takeTold 28 = .ok (.iload_n 3, 1) := by decide +kernel
theorem dX12_takeTold_29 : decode cX12_takeTold 29 = .ok (.ireturn, 1) := by decide +kernel
noncomputable def FX12_takeTold (a0 : Nat) (p1 : Int32) (p2 : Int32) : PP Int32 := bd (FX12_toldHere a0 p1 p2) (fun x1 => bd (gI a0 7) (fun x2 => bd (gI a0 8) (fun x3 => bd (if x3 ≤ 0 then pu (1 : Int32) else pu (0 : Int32) : PP (Int32)) (fun (v4 : Int32) => bd (sI a0 7 (x2 + v4)) (fun (_ : Unit) => pu x1)))))
set_option maxHeartbeats 4000000 in
set_option maxRecDepth 100000 in
theorem SX12_takeTold {l : Launch} {K : KK} {n : Nat} {hn : 270 ≤ n} (a0 : Nat) (p1 : Int32) (p2 : Int32) (h0 : ob a0 11) : CT l K n 4 mX12_takeTold [.ref (K.2.1 + a0), .int p1, .int p2] enI (FX12_takeTold a0 p1 p2) := by
  refine CT.of2 (lv2 := [(0, .ref (K.2.1 + a0)), (1, .int p1), (2, .int p2)]) (by decide) rfl hn (Nat.le_of_ble_eq_true rfl) rfl (rp_id ?_)
  unfold FX12_takeTold
  refine rp_aload_n 0 dX12_takeTold_0 rfl ?_
  refine rp_iload_n 1 dX12_takeTold_1 rfl ?_
  refine rp_iload_n 2 dX12_takeTold_2 rfl ?_
  refine rp_callVi [.int p1, .int p2] (SX12_toldHere (hn := hn) a0 p1 p2 h0) cvX12_toldHere (mw (i := 1480) (by decide +kernel)) (by omega) h0 (by decide) rfl rfl rfl (Nat.le_of_ble_eq_true rfl) dX12_takeTold_3 (fun x1 => ?_)
  refine rp_istore_n [(3, .int x1), (0, .ref (K.2.1 + a0)), (1, .int p1), (2, .int p2)] dX12_takeTold_6 (by decide) rfl ?_
  refine rp_aload_n 1 dX12_takeTold_7 rfl ?_
  refine rp_dup dX12_takeTold_8 rfl ?_
  refine rp_getI fi_X12_159 h0 rfl dX12_takeTold_9 (fun x2 => ?_)
  refine rp_aload_n 1 dX12_takeTold_12 rfl ?_
  refine rp_getI fi_X12_162 h0 rfl dX12_takeTold_13 (fun x3 => ?_)
  refine rp_as ?_
  refine rp_join 24 (fun (v4 : Int32) => [(3, .int x1)]) (fun v4 => [.int v4, .int x2, .ref (K.2.1 + a0)]) (fun v4 => ?_) (fun hJ24 => ?_)
  · refine rp_iadd dX12_takeTold_24 ?_
    refine rp_putI fi_X12_159 fp_X12_7 h0 rfl dX12_takeTold_25 ?_
    refine rp_iload_n 0 dX12_takeTold_28 rfl ?_
    exact rp_pu (rp_iret rfl dX12_takeTold_29)
  refine rp_if_le 23 dX12_takeTold_16 (by decide) ?_ ?_
  · refine rp_iconst (1 : Int32) dX12_takeTold_23 (by decide) ?_
    exact rp_sub [0] rfl (rp_pu (hJ24 (1 : Int32)))
  · refine rp_iconst (0 : Int32) dX12_takeTold_19 (by decide) ?_
    refine rp_goto 24 dX12_takeTold_20 (by decide) ?_
    exact rp_sub [0] rfl (rp_pu (hJ24 (0 : Int32)))

theorem dX12_readName_0 : decode cX12_readName 0 = .ok (.aload_n 0, 1) := by decide +kernel
theorem dX12_readName_1 : decode cX12_readName 1 = .ok (.getfield 83, 3) := by decide +kernel
theorem dX12_readName_4 : decode cX12_readName 4 = .ok (.bipush 40, 2) := by decide +kernel
theorem dX12_readName_6 : decode cX12_readName 6 = .ok (.iload_n 1, 1) := by decide +kernel
theorem dX12_readName_7 : decode cX12_readName 7 = .ok (.iadd, 1) := by decide +kernel
theorem dX12_readName_8 : decode cX12_readName 8 = .ok (.iaload, 1) := by decide +kernel
theorem dX12_readName_9 : decode cX12_readName 9 = .ok (.istore 4, 2) := by decide +kernel
theorem dX12_readName_11 : decode cX12_readName 11 = .ok (.iload 4, 2) := by decide +kernel
theorem dX12_readName_13 : decode cX12_readName 13 = .ok (.iload_n 2, 1) := by decide +kernel
theorem dX12_readName_14 : decode cX12_readName 14 = .ok (.if_icmp .ne 9, 3) := by decide +kernel
theorem dX12_readName_17 : decode cX12_readName 17 = .ok (.aload_n 0, 1) := by decide +kernel
theorem dX12_readName_18 : decode cX12_readName 18 = .ok (.iconst 5, 1) := by decide +kernel
theorem dX12_readName_19 : decode cX12_readName 19 = .ok (.invokevirtual 168, 3) := by decide +kernel
theorem dX12_readName_22 : decode cX12_readName 22 = .ok (.return_, 1) := by decide +kernel
theorem dX12_readName_23 : decode cX12_readName 23 = .ok (.aload_n 0, 1) := by decide +kernel
theorem dX12_readName_24 : decode cX12_readName 24 = .ok (.dup, 1) := by decide +kernel
theorem dX12_readName_25 : decode cX12_readName 25 = .ok (.getfield 159, 3) := by decide +kernel
theorem dX12_readName_28 : decode cX12_readName 28 = .ok (.iconst 1, 1) := by decide +kernel
theorem dX12_readName_29 : decode cX12_readName 29 = .ok (.iadd, 1) := by decide +kernel
theorem dX12_readName_30 : decode cX12_readName 30 = .ok (.putfield 159, 3) := by decide +kernel
theorem dX12_readName_33 : decode cX12_readName 33 = .ok (.aload_n 0, 1) := by decide +kernel
theorem dX12_readName_34 : decode cX12_readName 34 = .ok (.invokevirtual 193, 3) := by decide +kernel
theorem dX12_readName_37 : decode cX12_readName 37 = .ok (.ifCond .ne 11, 3) := by decide +kernel
theorem dX12_readName_40 : decode cX12_readName 40 = .ok (.aload_n 0, 1) := by decide +kernel
theorem dX12_readName_41 : decode cX12_readName 41 = .ok (.iconst 1, 1) := by decide +kernel
theorem dX12_readName_42 : decode cX12_readName 42 = .ok (.invokevirtual 168, 3) := by decide +kernel
theorem dX12_readName_45 : decode cX12_readName 45 = .ok (.goto 16, 3) := by decide +kernel
theorem dX12_readName_48 : decode cX12_readName 48 = .ok (.aload_n 0, 1) := by decide +kernel
theorem dX12_readName_49 : decode cX12_readName 49 = .ok (.iconst 1, 1) := by decide +kernel
theorem dX12_readName_50 : decode cX12_readName 50 = .ok (.invokevirtual 197, 3) := by decide +kernel
theorem dX12_readName_53 : decode cX12_readName 53 = .ok (.ifCond .lt 8, 3) := by decide +kernel
theorem dX12_readName_56 : decode cX12_readName 56 = .ok (.aload_n 0, 1) := by decide +kernel
theorem dX12_readName_57 : decode cX12_readName 57 = .ok (.iconst 3, 1) := by decide +kernel
theorem dX12_readName_58 : decode cX12_readName 58 = .ok (.invokevirtual 168, 3) := by decide +kernel
theorem dX12_readName_61 : decode cX12_readName 61 = .ok (.aload_n 0, 1) := by decide +kernel
theorem dX12_readName_62 : decode cX12_readName 62 = .ok (.getfield 162, 3) := by decide +kernel
theorem dX12_readName_65 : decode cX12_readName 65 = .ok (.ifCond .ne 67, 3) := by decide +kernel
theorem dX12_readName_68 : decode cX12_readName 68 = .ok (.aload_n 0, 1) := by decide +kernel
theorem dX12_readName_69 : decode cX12_readName 69 = .ok (.getfield 95, 3) := by decide +kernel
theorem dX12_readName_72 : decode cX12_readName 72 = .ok (.aload_n 0, 1) := by decide +kernel
theorem dX12_readName_73 : decode cX12_readName 73 = .ok (.getfield 187, 3) := by decide +kernel
theorem dX12_readName_76 : decode cX12_readName 76 = .ok (.aload_n 0, 1) := by decide +kernel
theorem dX12_readName_77 : decode cX12_readName 77 = .ok (.getfield 30, 3) := by decide +kernel
theorem dX12_readName_80 : decode cX12_readName 80 = .ok (.aload_n 0, 1) := by decide +kernel
theorem dX12_readName_81 : decode cX12_readName 81 = .ok (.getfield 159, 3) := by decide +kernel
theorem dX12_readName_84 : decode cX12_readName 84 = .ok (.laload, 1) := by decide +kernel
theorem dX12_readName_85 : decode cX12_readName 85 = .ok (.lastore, 1) := by decide +kernel
theorem dX12_readName_86 : decode cX12_readName 86 = .ok (.aload_n 0, 1) := by decide +kernel
theorem dX12_readName_87 : decode cX12_readName 87 = .ok (.getfield 101, 3) := by decide +kernel
theorem dX12_readName_90 : decode cX12_readName 90 = .ok (.aload_n 0, 1) := by decide +kernel
theorem dX12_readName_91 : decode cX12_readName 91 = .ok (.getfield 187, 3) := by decide +kernel
theorem dX12_readName_94 : decode cX12_readName 94 = .ok (.iload_n 3, 1) := by decide +kernel
theorem dX12_readName_95 : decode cX12_readName 95 = .ok (.iload 4, 2) := by decide +kernel
theorem dX12_readName_97 : decode cX12_readName 97 = .ok (.iadd, 1) := by decide +kernel
theorem dX12_readName_98 : decode cX12_readName 98 = .ok (.iastore, 1) := by decide +kernel
theorem dX12_readName_99 : decode cX12_readName 99 = .ok (.aload_n 0, 1) := by decide +kernel
theorem dX12_readName_100 : decode cX12_readName 100 = .ok (.dup, 1) := by decide +kernel
theorem dX12_readName_101 : decode cX12_readName 101 = .ok (.getfield 187, 3) := by decide +kernel
theorem dX12_readName_104 : decode cX12_readName 104 = .ok (.iconst 1, 1) := by decide +kernel
theorem dX12_readName_105 : decode cX12_readName 105 = .ok (.iadd, 1) := by decide +kernel
theorem dX12_readName_106 : decode cX12_readName 106 = .ok (.putfield 187, 3) := by decide +kernel
theorem dX12_readName_109 : decode cX12_readName 109 = .ok (.aload_n 0, 1) := by decide +kernel
theorem dX12_readName_110 : decode cX12_readName 110 = .ok (.dup, 1) := by decide +kernel
theorem dX12_readName_111 : decode cX12_readName 111 = .ok (.getfield 159, 3) := by decide +kernel
theorem dX12_readName_114 : decode cX12_readName 114 = .ok (.iconst 1, 1) := by decide +kernel
theorem dX12_readName_115 : decode cX12_readName 115 = .ok (.iadd, 1) := by decide +kernel
theorem dX12_readName_116 : decode cX12_readName 116 = .ok (.putfield 159, 3) := by decide +kernel
theorem dX12_readName_119 : decode cX12_readName 119 = .ok (.aload_n 0, 1) := by decide +kernel
theorem dX12_readName_120 : decode cX12_readName 120 = .ok (.getfield 83, 3) := by decide +kernel
theorem dX12_readName_123 : decode cX12_readName 123 = .ok (.bipush 40, 2) := by decide +kernel
theorem dX12_readName_125 : decode cX12_readName 125 = .ok (.iload_n 1, 1) := by decide +kernel
theorem dX12_readName_126 : decode cX12_readName 126 = .ok (.iadd, 1) := by decide +kernel
theorem dX12_readName_127 : decode cX12_readName 127 = .ok (.dup2, 1) := by decide +kernel
theorem dX12_readName_128 : decode cX12_readName 128 = .ok (.iaload, 1) := by decide +kernel
theorem dX12_readName_129 : decode cX12_readName 129 = .ok (.iconst 1, 1) := by decide +kernel
theorem dX12_readName_130 : decode cX12_readName 130 = .ok (.iadd, 1) := by decide +kernel
theorem dX12_readName_131 : decode cX12_readName 131 = .ok (.iastore, 1) := by decide +kernel
theorem dX12_readName_132 : decode cX12_readName 132 = .ok (.return_, 1) := by decide +kernel
noncomputable def FX12_readName (a0 : Nat) (p1 : Int32) (p2 : Int32) (p3 : Int32) : PP Unit := bd (aI (rf a0 10) 80 ((40 : Int32) + p1)) (fun x1 => if x1 = p2 then bd (FX12_wrong a0 (5 : Int32)) (fun (_ : Unit) => pu ()) else bd (gI a0 7) (fun x2 => bd (sI a0 7 (x2 + (1 : Int32))) (fun (_ : Unit) => bd (FX12_isName a0) (fun x3 => bd (if ((b2i x3)) = 0 then bd (FX12_wrong a0 (1 : Int32)) (fun (_ : Unit) => pu ()) else bd (FX12_nameAt a0 (1 : Int32)) (fun x4 => if x4 < 0 then pu () else bd (FX12_wrong a0 (3 : Int32)) (fun (_ : Unit) => pu ())) : PP (Unit)) (fun (v7 : Unit) => bd (gI a0 8) (fun x8 => bd (if x8 = 0 then bd (gI a0 19) (fun x9 => bd (gI a0 7) (fun x10 => bd (aL (rf a0 6) 1002 x10) (fun x11 => bd (uL (rf a0 15) 15 x9 x11) (fun (_ : Unit) => bd (gI a0 19) (fun x12 => bd (uI (rf a0 17) 15 x12 (p3 + x1)) (fun (_ : Unit) => bd (gI a0 19) (fun x13 => bd (sI a0 19 (x13 + (1 : Int32))) (fun (_ : Unit) => bd (gI a0 7) (fun x14 => bd (sI a0 7 (x14 + (1 : Int32))) (fun (_ : Unit) => bd (aI (rf a0 10) 80 ((40 : Int32) + p1)) (fun x15 => bd (uI (rf a0 10) 80 ((40 : Int32) + p1) (x15 + (1 : Int32))) (fun (_ : Unit) => pu ())))))))))))) else pu () : PP (Unit)) (fun (v16 : Unit) => pu ())))))))
set_option maxHeartbeats 4000000 in
set_option maxRecDepth 100000 in
theorem SX12_readName {l : Launch} {K : KK} {n : Nat} {hn : 270 ≤ n} (a0 : Nat) (p1 : Int32) (p2 : Int32) (p3 : Int32) (h0 : ob a0 11) : CT l K n 3 mX12_readName [.ref (K.2.1 + a0), .int p1, .int p2, .int p3] enU (FX12_readName a0 p1 p2 p3) := by
  refine CT.of2 (lv2 := [(0, .ref (K.2.1 + a0)), (1, .int p1), (2, .int p2), (3, .int p3)]) (by decide) rfl hn (Nat.le_of_ble_eq_true rfl) rfl (rp_id ?_)
  unfold FX12_readName
  refine rp_aload_n 0 dX12_readName_0 rfl ?_
  refine rp_getR fi_X12_83 h0 rfl dX12_readName_1 ?_
  refine rp_bipush (40 : Int32) dX12_readName_4 (by decide) ?_
  refine rp_iload_n 1 dX12_readName_6 rfl ?_
  refine rp_iadd dX12_readName_7 ?_
  refine rp_iald (tX12_10 h0) dX12_readName_8 (fun x1 => ?_)
  refine rp_istore [(4, .int x1), (0, .ref (K.2.1 + a0)), (1, .int p1), (2, .int p2), (3, .int p3)] dX12_readName_9 (by decide) rfl ?_
  refine rp_iload 0 dX12_readName_11 rfl ?_
  refine rp_iload_n 3 dX12_readName_13 rfl ?_
  refine rp_icmp_ne 23 dX12_readName_14 (by decide) ?_ ?_
  · refine rp_aload_n 1 dX12_readName_23 rfl ?_
    refine rp_dup dX12_readName_24 rfl ?_
    refine rp_getI fi_X12_159 h0 rfl dX12_readName_25 (fun x2 => ?_)
    refine rp_iconst (1 : Int32) dX12_readName_28 (by decide) ?_
    refine rp_iadd dX12_readName_29 ?_
    refine rp_putI fi_X12_159 fp_X12_7 h0 rfl dX12_readName_30 ?_
    refine rp_aload_n 1 dX12_readName_33 rfl ?_
    refine rp_callVz [] (SX12_isName (hn := hn) a0 h0) cvX12_isName (mw (i := 1448) (by decide +kernel)) (by omega) h0 (by decide) rfl rfl rfl (Nat.le_of_ble_eq_true rfl) dX12_readName_34 (fun x3 => ?_)
    refine rp_as ?_
    refine rp_join 61 (fun (v7 : Unit) => [(0, .ref (K.2.1 + a0)), (1, .int p1), (3, .int p3), (4, .int x1)]) (fun v7 => []) (fun v7 => ?_) (fun hJ61 => ?_)
    · refine rp_aload_n 0 dX12_readName_61 rfl ?_
      refine rp_getI fi_X12_162 h0 rfl dX12_readName_62 (fun x8 => ?_)
      refine rp_as ?_
      refine rp_join 132 (fun (v16 : Unit) => []) (fun v16 => []) (fun v16 => ?_) (fun hJ132 => ?_)
      · exact rp_pu (rp_vret rfl dX12_readName_132)
      refine rp_if_ne 132 dX12_readName_65 (by decide) ?_ ?_
      · exact rp_sub [] rfl (rp_pu (hJ132 ()))
      · refine rp_aload_n 0 dX12_readName_68 rfl ?_
        refine rp_getR fi_X12_95 h0 rfl dX12_readName_69 ?_
        refine rp_aload_n 0 dX12_readName_72 rfl ?_
        refine rp_getI fi_X12_187 h0 rfl dX12_readName_73 (fun x9 => ?_)
        refine rp_aload_n 0 dX12_readName_76 rfl ?_
        refine rp_getR fi_X12_30 h0 rfl dX12_readName_77 ?_
        refine rp_aload_n 0 dX12_readName_80 rfl ?_
        refine rp_getI fi_X12_159 h0 rfl dX12_readName_81 (fun x10 => ?_)
        refine rp_lald (tX12_6 h0) dX12_readName_84 (fun x11 => ?_)
        refine rp_last (tX12_15 h0) dX12_readName_85 ?_
        refine rp_aload_n 0 dX12_readName_86 rfl ?_
        refine rp_getR fi_X12_101 h0 rfl dX12_readName_87 ?_
        refine rp_aload_n 0 dX12_readName_90 rfl ?_
        refine rp_getI fi_X12_187 h0 rfl dX12_readName_91 (fun x12 => ?_)
        refine rp_iload_n 2 dX12_readName_94 rfl ?_
        refine rp_iload 3 dX12_readName_95 rfl ?_
        refine rp_iadd dX12_readName_97 ?_
        refine rp_iast (tX12_17 h0) dX12_readName_98 ?_
        refine rp_aload_n 0 dX12_readName_99 rfl ?_
        refine rp_dup dX12_readName_100 rfl ?_
        refine rp_getI fi_X12_187 h0 rfl dX12_readName_101 (fun x13 => ?_)
        refine rp_iconst (1 : Int32) dX12_readName_104 (by decide) ?_
        refine rp_iadd dX12_readName_105 ?_
        refine rp_putI fi_X12_187 fp_X12_19 h0 rfl dX12_readName_106 ?_
        refine rp_aload_n 0 dX12_readName_109 rfl ?_
        refine rp_dup dX12_readName_110 rfl ?_
        refine rp_getI fi_X12_159 h0 rfl dX12_readName_111 (fun x14 => ?_)
        refine rp_iconst (1 : Int32) dX12_readName_114 (by decide) ?_
        refine rp_iadd dX12_readName_115 ?_
        refine rp_putI fi_X12_159 fp_X12_7 h0 rfl dX12_readName_116 ?_
        refine rp_aload_n 0 dX12_readName_119 rfl ?_
        refine rp_getR fi_X12_83 h0 rfl dX12_readName_120 ?_
        refine rp_bipush (40 : Int32) dX12_readName_123 (by decide) ?_
        refine rp_iload_n 1 dX12_readName_125 rfl ?_
        refine rp_iadd dX12_readName_126 ?_
        refine rp_dup2 dX12_readName_127 rfl rfl ?_
        refine rp_iald (tX12_10 h0) dX12_readName_128 (fun x15 => ?_)
        refine rp_iconst (1 : Int32) dX12_readName_129 (by decide) ?_
        refine rp_iadd dX12_readName_130 ?_
        refine rp_iast (tX12_10 h0) dX12_readName_131 ?_
        exact rp_sub [] rfl (rp_pu (hJ132 ()))
    refine rp_if_ne 48 dX12_readName_37 (by decide) ?_ ?_
    · refine rp_aload_n 1 dX12_readName_48 rfl ?_
      refine rp_iconst (1 : Int32) dX12_readName_49 (by decide) ?_
      refine rp_callVi [.int (1 : Int32)] (SX12_nameAt (hn := hn) a0 (1 : Int32) h0) cvX12_nameAt (mw (i := 1456) (by decide +kernel)) (by omega) h0 (by decide) rfl rfl rfl (Nat.le_of_ble_eq_true rfl) dX12_readName_50 (fun x4 => ?_)
      refine rp_if_lt 61 dX12_readName_53 (by decide) ?_ ?_
      · exact rp_sub [1, 2, 4, 0] rfl (rp_pu (hJ61 ()))
      · refine rp_aload_n 1 dX12_readName_56 rfl ?_
        refine rp_iconst (3 : Int32) dX12_readName_57 (by decide) ?_
        refine rp_callVv [.int (3 : Int32)] (SX12_wrong (hn := hn) a0 (3 : Int32) h0) cvX12_wrong (mw (i := 1444) (by decide +kernel)) (by omega) h0 (by decide) rfl rfl rfl (Nat.le_of_ble_eq_true rfl) dX12_readName_58 (fun x5 => ?_)
        exact rp_sub [1, 2, 4, 0] rfl (rp_pu (hJ61 ()))
    · refine rp_aload_n 1 dX12_readName_40 rfl ?_
      refine rp_iconst (1 : Int32) dX12_readName_41 (by decide) ?_
      refine rp_callVv [.int (1 : Int32)] (SX12_wrong (hn := hn) a0 (1 : Int32) h0) cvX12_wrong (mw (i := 1444) (by decide +kernel)) (by omega) h0 (by decide) rfl rfl rfl (Nat.le_of_ble_eq_true rfl) dX12_readName_42 (fun x6 => ?_)
      refine rp_goto 61 dX12_readName_45 (by decide) ?_
      exact rp_sub [1, 2, 4, 0] rfl (rp_pu (hJ61 ()))
  · refine rp_aload_n 1 dX12_readName_17 rfl ?_
    refine rp_iconst (5 : Int32) dX12_readName_18 (by decide) ?_
    refine rp_callVv [.int (5 : Int32)] (SX12_wrong (hn := hn) a0 (5 : Int32) h0) cvX12_wrong (mw (i := 1444) (by decide +kernel)) (by omega) h0 (by decide) rfl rfl rfl (Nat.le_of_ble_eq_true rfl) dX12_readName_19 (fun x17 => ?_)
    exact rp_pu (rp_vret rfl dX12_readName_22)

theorem dX12_readPlace_0 : decode cX12_readPlace 0 = .ok (.bipush 54, 2) := by decide +kernel
theorem dX12_readPlace_2 : decode cX12_readPlace 2 = .ok (.aload_n 0, 1) := by decide +kernel
theorem dX12_readPlace_3 : decode cX12_readPlace 3 = .ok (.getfield 83, 3) := by decide +kernel
theorem dX12_readPlace_6 : decode cX12_readPlace 6 = .ok (.bipush 41, 2) := by decide +kernel
theorem dX12_readPlace_8 : decode cX12_readPlace 8 = .ok (.iaload, 1) := by decide +kernel
theorem dX12_readPlace_9 : decode cX12_readPlace 9 = .ok (.iadd, 1) := by decide +kernel
theorem dX12_readPlace_10 : decode cX12_readPlace 10 = .ok (.istore_n 1, 1) := by decide +kernel
theorem dX12_readPlace_11 : decode cX12_readPlace 11 = .ok (.aload_n 0, 1) := by decide +kernel
theorem dX12_readPlace_12 : decode cX12_readPlace 12 = .ok (.iconst 1, 1) := by decide +kernel
theorem dX12_readPlace_13 : decode cX12_readPlace 13 = .ok (.iconst 4, 1) := by decide +kernel
theorem dX12_readPlace_14 : decode cX12_readPlace 14 = .ok (.bipush 20, 2) := by decide +kernel
theorem dX12_readPlace_16 : decode cX12_readPlace 16 = .ok (.invokevirtual 221, 3) := by decide +kernel
theorem dX12_readPlace_19 : decode cX12_readPlace 19 = .ok (.aload_n 0, 1) := by decide +kernel
theorem dX12_readPlace_20 : decode cX12_readPlace 20 = .ok (.iconst 3, 1) := by decide +kernel
theorem dX12_readPlace_21 : decode cX12_readPlace 21 = .ok (.invokevirtual 177, 3) := by decide +kernel
theorem dX12_readPlace_24 : decode cX12_readPlace 24 = .ok (.iconst 0, 1) := by decide +kernel
theorem dX12_readPlace_25 : decode cX12_readPlace 25 = .ok (.istore_n 2, 1) := by decide +kernel
theorem dX12_readPlace_26 : decode cX12_readPlace 26 = .ok (.aload_n 0, 1) := by decide +kernel
theorem dX12_readPlace_27 : decode cX12_readPlace 27 = .ok (.getfield 162, 3) := by decide +kernel
theorem dX12_readPlace_30 : decode cX12_readPlace 30 = .ok (.ifCond .ne 89, 3) := by decide +kernel
theorem dX12_readPlace_33 : decode cX12_readPlace 33 = .ok (.iload_n 2, 1) := by decide +kernel
theorem dX12_readPlace_34 : decode cX12_readPlace 34 = .ok (.ifCond .eq 16, 3) := by decide +kernel
theorem dX12_readPlace_37 : decode cX12_readPlace 37 = .ok (.aload_n 0, 1) := by decide +kernel
theorem dX12_readPlace_38 : decode cX12_readPlace 38 = .ok (.getfield 24, 3) := by decide +kernel
theorem dX12_readPlace_41 : decode cX12_readPlace 41 = .ok (.aload_n 0, 1) := by decide +kernel
theorem dX12_readPlace_42 : decode cX12_readPlace 42 = .ok (.getfield 159, 3) := by decide +kernel
theorem dX12_readPlace_45 : decode cX12_readPlace 45 = .ok (.iaload, 1) := by decide +kernel
theorem dX12_readPlace_46 : decode cX12_readPlace 46 = .ok (.iconst 1, 1) := by decide +kernel
theorem dX12_readPlace_47 : decode cX12_readPlace 47 = .ok (.if_icmp .ne 72, 3) := by decide +kernel
theorem dX12_readPlace_50 : decode cX12_readPlace 50 = .ok (.aload_n 0, 1) := by decide +kernel
theorem dX12_readPlace_51 : decode cX12_readPlace 51 = .ok (.iconst 1, 1) := by decide +kernel
theorem dX12_readPlace_52 : decode cX12_readPlace 52 = .ok (.iconst 0, 1) := by decide +kernel
theorem dX12_readPlace_53 : decode cX12_readPlace 53 = .ok (.invokevirtual 205, 3) := by decide +kernel
theorem dX12_readPlace_56 : decode cX12_readPlace 56 = .ok (.istore_n 3, 1) := by decide +kernel
theorem dX12_readPlace_57 : decode cX12_readPlace 57 = .ok (.aload_n 0, 1) := by decide +kernel
theorem dX12_readPlace_58 : decode cX12_readPlace 58 = .ok (.getfield 162, 3) := by decide +kernel
theorem dX12_readPlace_61 : decode cX12_readPlace 61 = .ok (.ifCond .ne 17, 3) := by decide +kernel
theorem dX12_readPlace_64 : decode cX12_readPlace 64 = .ok (.iload_n 2, 1) := by decide +kernel
theorem dX12_readPlace_65 : decode cX12_readPlace 65 = .ok (.iload_n 3, 1) := by decide +kernel
theorem dX12_readPlace_66 : decode cX12_readPlace 66 = .ok (.ishr, 1) := by decide +kernel
theorem dX12_readPlace_67 : decode cX12_readPlace 67 = .ok (.iconst 1, 1) := by decide +kernel
theorem dX12_readPlace_68 : decode cX12_readPlace 68 = .ok (.iand, 1) := by decide +kernel
theorem dX12_readPlace_69 : decode cX12_readPlace 69 = .ok (.iconst 1, 1) := by decide +kernel
theorem dX12_readPlace_70 : decode cX12_readPlace 70 = .ok (.if_icmp .ne 8, 3) := by decide +kernel
theorem dX12_readPlace_73 : decode cX12_readPlace 73 = .ok (.aload_n 0, 1) := by decide +kernel
theorem dX12_readPlace_74 : decode cX12_readPlace 74 = .ok (.iconst 3, 1) := by decide +kernel
theorem dX12_readPlace_75 : decode cX12_readPlace 75 = .ok (.invokevirtual 168, 3) := by decide +kernel
theorem dX12_readPlace_78 : decode cX12_readPlace 78 = .ok (.iload_n 2, 1) := by decide +kernel
theorem dX12_readPlace_79 : decode cX12_readPlace 79 = .ok (.aload_n 0, 1) := by decide +kernel
theorem dX12_readPlace_80 : decode cX12_readPlace 80 = .ok (.getfield 162, 3) := by decide +kernel
theorem dX12_readPlace_83 : decode cX12_readPlace 83 = .ok (.ifCond .le 7, 3) := by decide +kernel
theorem dX12_readPlace_86 : decode cX12_readPlace 86 = .ok (.iconst 0, 1) := by decide +kernel
theorem dX12_readPlace_87 : decode cX12_readPlace 87 = .ok (.goto 6, 3) := by decide +kernel
theorem dX12_readPlace_90 : decode cX12_readPlace 90 = .ok (.iconst 1, 1) := by decide +kernel
theorem dX12_readPlace_91 : decode cX12_readPlace 91 = .ok (.iload_n 3, 1) := by decide +kernel
theorem dX12_readPlace_92 : decode cX12_readPlace 92 = .ok (.ishl, 1) := by decide +kernel
theorem dX12_readPlace_93 : decode cX12_readPlace 93 = .ok (.ior, 1) := by decide +kernel
theorem dX12_readPlace_94 : decode cX12_readPlace 94 = .ok (.istore_n 2, 1) := by decide +kernel
theorem dX12_readPlace_95 : decode cX12_readPlace 95 = .ok (.aload_n 0, 1) := by decide +kernel
theorem dX12_readPlace_96 : decode cX12_readPlace 96 = .ok (.dup, 1) := by decide +kernel
theorem dX12_readPlace_97 : decode cX12_readPlace 97 = .ok (.getfield 159, 3) := by decide +kernel
theorem dX12_readPlace_100 : decode cX12_readPlace 100 = .ok (.aload_n 0, 1) := by decide +kernel
theorem dX12_readPlace_101 : decode cX12_readPlace 101 = .ok (.getfield 162, 3) := by decide +kernel
theorem dX12_readPlace_104 : decode cX12_readPlace 104 = .ok (.ifCond .le 7, 3) := by decide +kernel
theorem dX12_readPlace_107 : decode cX12_readPlace 107 = .ok (.iconst 0, 1) := by decide +kernel
theorem dX12_readPlace_108 : decode cX12_readPlace 108 = .ok (.goto 4, 3) := by decide +kernel
theorem dX12_readPlace_111 : decode cX12_readPlace 111 = .ok (.iconst 1, 1) := by decide +kernel
theorem dX12_readPlace_112 : decode cX12_readPlace 112 = .ok (.iadd, 1) := by decide +kernel
theorem dX12_readPlace_113 : decode cX12_readPlace 113 = .ok (.putfield 159, 3) := by decide +kernel
theorem dX12_readPlace_116 : decode cX12_readPlace 116 = .ok (.goto (-90), 3) := by decide +kernel
theorem dX12_readPlace_119 : decode cX12_readPlace 119 = .ok (.aload_n 0, 1) := by decide +kernel
theorem dX12_readPlace_120 : decode cX12_readPlace 120 = .ok (.getfield 162, 3) := by decide +kernel
theorem dX12_readPlace_123 : decode cX12_readPlace 123 = .ok (.ifCond .ne 10, 3) := by decide +kernel
theorem dX12_readPlace_126 : decode cX12_readPlace 126 = .ok (.aload_n 0, 1) := by decide +kernel
theorem dX12_readPlace_127 : decode cX12_readPlace 127 = .ok (.getfield 83, 3) := by decide +kernel
theorem dX12_readPlace_130 : decode cX12_readPlace 130 = .ok (.iload_n 1, 1) := by decide +kernel
theorem dX12_readPlace_131 : decode cX12_readPlace 131 = .ok (.iload_n 2, 1) := by decide +kernel
theorem dX12_readPlace_132 : decode cX12_readPlace 132 = .ok (.iastore, 1) := by decide +kernel
theorem dX12_readPlace_133 : decode cX12_readPlace 133 = .ok (.return_, 1) := by decide +kernel
noncomputable def FX12_readPlace (a0 : Nat) : PP Unit := bd (aI (rf a0 10) 80 (41 : Int32)) (fun x1 => lt ((54 : Int32) + x1) (fun y2 => bd (FX12_readName a0 (1 : Int32) (4 : Int32) (20 : Int32)) (fun (_ : Unit) => bd (FX12_takeWord a0 (3 : Int32)) (fun (_ : Unit) => bd (it (fun (s5 : Int32) => (bd (gI a0 8) (fun x6 => if x6 = 0 then jn (fun (v10 : Unit) => bd (FX12_toldHere a0 (1 : Int32) (0 : Int32)) (fun x11 => bd (gI a0 8) (fun x12 => bd (if x12 = 0 then if ((s5 >>> (x11 &&& 31)) &&& (1 : Int32)) = (1 : Int32) then bd (FX12_wrong a0 (3 : Int32)) (fun (_ : Unit) => pu ()) else pu () else pu () : PP (Unit)) (fun (v14 : Unit) => bd (gI a0 8) (fun x15 => bd (if x15 ≤ 0 then pu ((1 : Int32) <<< (x11 &&& 31)) else pu (0 : Int32) : PP (Int32)) (fun (v16 : Int32) => lt (s5 ||| v16) (fun y17 => bd (gI a0 7) (fun x18 => bd (gI a0 8) (fun x19 => bd (if x19 ≤ 0 then pu (1 : Int32) else pu (0 : Int32) : PP (Int32)) (fun (v20 : Int32) => bd (sI a0 7 (x18 + v20)) (fun (_ : Unit) => pu (Sum.inl y17)))))))))))) (fun j7 => if s5 = 0 then j7 () else bd (gI a0 7) (fun x8 => bd (aI (rf a0 4) 1002 x8) (fun x9 => if x9 = (1 : Int32) then j7 () else pu (Sum.inr s5)))) else pu (Sum.inr s5)) : PP ((Int32) ⊕ (Int32)))) FU (0 : Int32)) (fun (v21 : Int32) => bd (gI a0 8) (fun x22 => bd (if x22 = 0 then bd (uI (rf a0 10) 80 y2 v21) (fun (_ : Unit) => pu ()) else pu () : PP (Unit)) (fun (v23 : Unit) => pu ())))))))
set_option maxHeartbeats 4000000 in
set_option maxRecDepth 100000 in
theorem SX12_readPlace {l : Launch} {K : KK} {n : Nat} {hn : 270 ≤ n} (a0 : Nat) (h0 : ob a0 11) : CT l K n 4 mX12_readPlace [.ref (K.2.1 + a0)] enU (FX12_readPlace a0) := by
  refine CT.of2 (lv2 := [(0, .ref (K.2.1 + a0))]) (by decide) rfl hn (Nat.le_of_ble_eq_true rfl) rfl (rp_id ?_)
  unfold FX12_readPlace
  refine rp_bipush (54 : Int32) dX12_readPlace_0 (by decide) ?_
  refine rp_aload_n 0 dX12_readPlace_2 rfl ?_
  refine rp_getR fi_X12_83 h0 rfl dX12_readPlace_3 ?_
  refine rp_bipush (41 : Int32) dX12_readPlace_6 (by decide) ?_
  refine rp_iald (tX12_10 h0) dX12_readPlace_8 (fun x1 => ?_)
  refine rp_iadd dX12_readPlace_9 ?_
  refine rp_lti (fun y2 => ?_)
  refine rp_istore_n [(1, .int y2), (0, .ref (K.2.1 + a0))] dX12_readPlace_10 (by decide) rfl ?_
  refine rp_aload_n 1 dX12_readPlace_11 rfl ?_
  refine rp_iconst (1 : Int32) dX12_readPlace_12 (by decide) ?_
  refine rp_iconst (4 : Int32) dX12_readPlace_13 (by decide) ?_
  refine rp_bipush (20 : Int32) dX12_readPlace_14 (by decide) ?_
  refine rp_callVv [.int (1 : Int32), .int (4 : Int32), .int (20 : Int32)] (SX12_readName (hn := hn) a0 (1 : Int32) (4 : Int32) (20 : Int32) h0) cvX12_readName (mw (i := 1440) (by decide +kernel)) (by omega) h0 (by decide) rfl rfl rfl (Nat.le_of_ble_eq_true rfl) dX12_readPlace_16 (fun x3 => ?_)
  refine rp_aload_n 1 dX12_readPlace_19 rfl ?_
  refine rp_iconst (3 : Int32) dX12_readPlace_20 (by decide) ?_
  refine rp_callVv [.int (3 : Int32)] (SX12_takeWord (hn := hn) a0 (3 : Int32) h0) cvX12_takeWord (mw (i := 1464) (by decide +kernel)) (by omega) h0 (by decide) rfl rfl rfl (Nat.le_of_ble_eq_true rfl) dX12_readPlace_21 (fun x4 => ?_)
  refine rp_iconst (0 : Int32) dX12_readPlace_24 (by decide) ?_
  refine rp_istore_n [(2, .int (0 : Int32)), (1, .int y2), (0, .ref (K.2.1 + a0))] dX12_readPlace_25 (by decide) rfl ?_
  refine rp_as ?_
  refine rp_join 119 (fun v21 => [(0, .ref (K.2.1 + a0)), (1, .int y2), (2, .int v21)]) (fun _ => []) (fun v21 => ?_) (fun hX26_0 => ?_)
  · refine rp_aload_n 0 dX12_readPlace_119 rfl ?_
    refine rp_getI fi_X12_162 h0 rfl dX12_readPlace_120 (fun x22 => ?_)
    refine rp_as ?_
    refine rp_join 133 (fun (v23 : Unit) => []) (fun v23 => []) (fun v23 => ?_) (fun hJ133 => ?_)
    · exact rp_pu (rp_vret rfl dX12_readPlace_133)
    refine rp_if_ne 133 dX12_readPlace_123 (by decide) ?_ ?_
    · exact rp_sub [] rfl (rp_pu (hJ133 ()))
    · refine rp_aload_n 0 dX12_readPlace_126 rfl ?_
      refine rp_getR fi_X12_83 h0 rfl dX12_readPlace_127 ?_
      refine rp_iload_n 1 dX12_readPlace_130 rfl ?_
      refine rp_iload_n 2 dX12_readPlace_131 rfl ?_
      refine rp_iast (tX12_10 h0) dX12_readPlace_132 ?_
      exact rp_sub [] rfl (rp_pu (hJ133 ()))
  refine rp_sub [2, 1, 0] rfl (rp_it (fun (s5 : Int32) => [(0, .ref (K.2.1 + a0)), (1, .int y2), (2, .int s5)]) (fun N26 ih26 s5 => ?_) FU (0 : Int32))
  refine rp_aload_n 0 dX12_readPlace_26 rfl ?_
  refine rp_getI fi_X12_162 h0 rfl dX12_readPlace_27 (fun x6 => ?_)
  refine rp_if_ne 119 dX12_readPlace_30 (by decide) ?_ ?_
  · exact rp_sub [0, 1, 2] rfl (rp_puR (hX26_0 s5))
  · refine rp_iload_n 2 dX12_readPlace_33 rfl ?_
    refine rp_jn2 50 (fun (v10 : Unit) => [(0, .ref (K.2.1 + a0)), (1, .int y2), (2, .int s5)]) (fun v10 => []) (fun v10 => ?_) (fun hK50 => ?_)
    · refine rp_aload_n 0 dX12_readPlace_50 rfl ?_
      refine rp_iconst (1 : Int32) dX12_readPlace_51 (by decide) ?_
      refine rp_iconst (0 : Int32) dX12_readPlace_52 (by decide) ?_
      refine rp_callVi [.int (1 : Int32), .int (0 : Int32)] (SX12_toldHere (hn := hn) a0 (1 : Int32) (0 : Int32) h0) cvX12_toldHere (mw (i := 1480) (by decide +kernel)) (by omega) h0 (by decide) rfl rfl rfl (Nat.le_of_ble_eq_true rfl) dX12_readPlace_53 (fun x11 => ?_)
      refine rp_istore_n [(3, .int x11), (0, .ref (K.2.1 + a0)), (1, .int y2), (2, .int s5)] dX12_readPlace_56 (by decide) rfl ?_
      refine rp_aload_n 1 dX12_readPlace_57 rfl ?_
      refine rp_getI fi_X12_162 h0 rfl dX12_readPlace_58 (fun x12 => ?_)
      refine rp_as ?_
      refine rp_join 78 (fun (v14 : Unit) => [(0, .ref (K.2.1 + a0)), (1, .int y2), (2, .int s5), (3, .int x11)]) (fun v14 => []) (fun v14 => ?_) (fun hJ78 => ?_)
      · refine rp_iload_n 2 dX12_readPlace_78 rfl ?_
        refine rp_aload_n 0 dX12_readPlace_79 rfl ?_
        refine rp_getI fi_X12_162 h0 rfl dX12_readPlace_80 (fun x15 => ?_)
        refine rp_as ?_
        refine rp_join 93 (fun (v16 : Int32) => [(0, .ref (K.2.1 + a0)), (1, .int y2)]) (fun v16 => [.int v16, .int s5]) (fun v16 => ?_) (fun hJ93 => ?_)
        · refine rp_ior dX12_readPlace_93 ?_
          refine rp_lti (fun y17 => ?_)
          refine rp_istore_n [(2, .int y17), (0, .ref (K.2.1 + a0)), (1, .int y2)] dX12_readPlace_94 (by decide) rfl ?_
          refine rp_aload_n 1 dX12_readPlace_95 rfl ?_
          refine rp_dup dX12_readPlace_96 rfl ?_
          refine rp_getI fi_X12_159 h0 rfl dX12_readPlace_97 (fun x18 => ?_)
          refine rp_aload_n 1 dX12_readPlace_100 rfl ?_
          refine rp_getI fi_X12_162 h0 rfl dX12_readPlace_101 (fun x19 => ?_)
          refine rp_as ?_
          refine rp_join 112 (fun (v20 : Int32) => [(0, .ref (K.2.1 + a0)), (1, .int y2), (2, .int y17)]) (fun v20 => [.int v20, .int x18, .ref (K.2.1 + a0)]) (fun v20 => ?_) (fun hJ112 => ?_)
          · refine rp_iadd dX12_readPlace_112 ?_
            refine rp_putI fi_X12_159 fp_X12_7 h0 rfl dX12_readPlace_113 ?_
            refine rp_goto 26 dX12_readPlace_116 (by decide) ?_
            exact rp_sub [0, 1, 2] rfl (ih26 y17)
          refine rp_if_le 111 dX12_readPlace_104 (by decide) ?_ ?_
          · refine rp_iconst (1 : Int32) dX12_readPlace_111 (by decide) ?_
            exact rp_sub [1, 2, 0] rfl (rp_pu (hJ112 (1 : Int32)))
          · refine rp_iconst (0 : Int32) dX12_readPlace_107 (by decide) ?_
            refine rp_goto 112 dX12_readPlace_108 (by decide) ?_
            exact rp_sub [1, 2, 0] rfl (rp_pu (hJ112 (0 : Int32)))
        refine rp_if_le 90 dX12_readPlace_83 (by decide) ?_ ?_
        · refine rp_iconst (1 : Int32) dX12_readPlace_90 (by decide) ?_
          refine rp_iload_n 3 dX12_readPlace_91 rfl ?_
          refine rp_ishl dX12_readPlace_92 ?_
          exact rp_sub [0, 1] rfl (rp_pu (hJ93 ((1 : Int32) <<< (x11 &&& 31))))
        · refine rp_iconst (0 : Int32) dX12_readPlace_86 (by decide) ?_
          refine rp_goto 93 dX12_readPlace_87 (by decide) ?_
          exact rp_sub [0, 1] rfl (rp_pu (hJ93 (0 : Int32)))
      refine rp_if_ne 78 dX12_readPlace_61 (by decide) ?_ ?_
      · exact rp_sub [1, 2, 3, 0] rfl (rp_pu (hJ78 ()))
      · refine rp_iload_n 3 dX12_readPlace_64 rfl ?_
        refine rp_iload_n 0 dX12_readPlace_65 rfl ?_
        refine rp_ishr dX12_readPlace_66 ?_
        refine rp_iconst (1 : Int32) dX12_readPlace_67 (by decide) ?_
        refine rp_iand dX12_readPlace_68 ?_
        refine rp_iconst (1 : Int32) dX12_readPlace_69 (by decide) ?_
        refine rp_icmp_ne 78 dX12_readPlace_70 (by decide) ?_ ?_
        · exact rp_sub [1, 2, 3, 0] rfl (rp_pu (hJ78 ()))
        · refine rp_aload_n 1 dX12_readPlace_73 rfl ?_
          refine rp_iconst (3 : Int32) dX12_readPlace_74 (by decide) ?_
          refine rp_callVv [.int (3 : Int32)] (SX12_wrong (hn := hn) a0 (3 : Int32) h0) cvX12_wrong (mw (i := 1444) (by decide +kernel)) (by omega) h0 (by decide) rfl rfl rfl (Nat.le_of_ble_eq_true rfl) dX12_readPlace_75 (fun x13 => ?_)
          exact rp_sub [1, 2, 3, 0] rfl (rp_pu (hJ78 ()))
    refine rp_if_eq 50 dX12_readPlace_34 (by decide) ?_ ?_
    · exact rp_sub [0, 1, 2] rfl (hK50 ())
    · refine rp_aload_n 0 dX12_readPlace_37 rfl ?_
      refine rp_getR fi_X12_24 h0 rfl dX12_readPlace_38 ?_
      refine rp_aload_n 0 dX12_readPlace_41 rfl ?_
      refine rp_getI fi_X12_159 h0 rfl dX12_readPlace_42 (fun x8 => ?_)
      refine rp_iald (tX12_4 h0) dX12_readPlace_45 (fun x9 => ?_)
      refine rp_iconst (1 : Int32) dX12_readPlace_46 (by decide) ?_
      refine rp_icmp_ne 119 dX12_readPlace_47 (by decide) ?_ ?_
      · exact rp_sub [0, 1, 2] rfl (rp_puR (hX26_0 s5))
      · exact rp_sub [0, 1, 2] rfl (hK50 ())

theorem dX12_readCrosses_0 : decode cX12_readCrosses 0 = .ok (.aload_n 0, 1) := by decide +kernel
theorem dX12_readCrosses_1 : decode cX12_readCrosses 1 = .ok (.dup, 1) := by decide +kernel
theorem dX12_readCrosses_2 : decode cX12_readCrosses 2 = .ok (.getfield 159, 3) := by decide +kernel
theorem dX12_readCrosses_5 : decode cX12_readCrosses 5 = .ok (.iconst 1, 1) := by decide +kernel
theorem dX12_readCrosses_6 : decode cX12_readCrosses 6 = .ok (.iadd, 1) := by decide +kernel
theorem dX12_readCrosses_7 : decode cX12_readCrosses 7 = .ok (.putfield 159, 3) := by decide +kernel
theorem dX12_readCrosses_10 : decode cX12_readCrosses 10 = .ok (.aload_n 0, 1) := by decide +kernel
theorem dX12_readCrosses_11 : decode cX12_readCrosses 11 = .ok (.iconst 1, 1) := by decide +kernel
theorem dX12_readCrosses_12 : decode cX12_readCrosses 12 = .ok (.iconst 0, 1) := by decide +kernel
theorem dX12_readCrosses_13 : decode cX12_readCrosses 13 = .ok (.invokevirtual 241, 3) := by decide +kernel
theorem dX12_readCrosses_16 : decode cX12_readCrosses 16 = .ok (.istore_n 1, 1) := by decide +kernel
theorem dX12_readCrosses_17 : decode cX12_readCrosses 17 = .ok (.aload_n 0, 1) := by decide +kernel
theorem dX12_readCrosses_18 : decode cX12_readCrosses 18 = .ok (.iconst 1, 1) := by decide +kernel
theorem dX12_readCrosses_19 : decode cX12_readCrosses 19 = .ok (.iconst 0, 1) := by decide +kernel
theorem dX12_readCrosses_20 : decode cX12_readCrosses 20 = .ok (.invokevirtual 205, 3) := by decide +kernel
theorem dX12_readCrosses_23 : decode cX12_readCrosses 23 = .ok (.istore_n 2, 1) := by decide +kernel
theorem dX12_readCrosses_24 : decode cX12_readCrosses 24 = .ok (.bipush 44, 2) := by decide +kernel
theorem dX12_readCrosses_26 : decode cX12_readCrosses 26 = .ok (.iconst 2, 1) := by decide +kernel
theorem dX12_readCrosses_27 : decode cX12_readCrosses 27 = .ok (.iload_n 1, 1) := by decide +kernel
theorem dX12_readCrosses_28 : decode cX12_readCrosses 28 = .ok (.imul, 1) := by decide +kernel
theorem dX12_readCrosses_29 : decode cX12_readCrosses 29 = .ok (.iadd, 1) := by decide +kernel
theorem dX12_readCrosses_30 : decode cX12_readCrosses 30 = .ok (.iconst 1, 1) := by decide +kernel
theorem dX12_readCrosses_31 : decode cX12_readCrosses 31 = .ok (.iadd, 1) := by decide +kernel
theorem dX12_readCrosses_32 : decode cX12_readCrosses 32 = .ok (.istore_n 3, 1) := by decide +kernel
theorem dX12_readCrosses_33 : decode cX12_readCrosses 33 = .ok (.aload_n 0, 1) := by decide +kernel
theorem dX12_readCrosses_34 : decode cX12_readCrosses 34 = .ok (.getfield 162, 3) := by decide +kernel
theorem dX12_readCrosses_37 : decode cX12_readCrosses 37 = .ok (.ifCond .ne 27, 3) := by decide +kernel
theorem dX12_readCrosses_40 : decode cX12_readCrosses 40 = .ok (.iload_n 1, 1) := by decide +kernel
theorem dX12_readCrosses_41 : decode cX12_readCrosses 41 = .ok (.iload_n 2, 1) := by decide +kernel
theorem dX12_readCrosses_42 : decode cX12_readCrosses 42 = .ok (.if_icmp .eq 17, 3) := by decide +kernel
theorem dX12_readCrosses_45 : decode cX12_readCrosses 45 = .ok (.aload_n 0, 1) := by decide +kernel
theorem dX12_readCrosses_46 : decode cX12_readCrosses 46 = .ok (.getfield 83, 3) := by decide +kernel
theorem dX12_readCrosses_49 : decode cX12_readCrosses 49 = .ok (.iload_n 3, 1) := by decide +kernel
theorem dX12_readCrosses_50 : decode cX12_readCrosses 50 = .ok (.iaload, 1) := by decide +kernel
theorem dX12_readCrosses_51 : decode cX12_readCrosses 51 = .ok (.iload_n 2, 1) := by decide +kernel
theorem dX12_readCrosses_52 : decode cX12_readCrosses 52 = .ok (.ishr, 1) := by decide +kernel
theorem dX12_readCrosses_53 : decode cX12_readCrosses 53 = .ok (.iconst 1, 1) := by decide +kernel
theorem dX12_readCrosses_54 : decode cX12_readCrosses 54 = .ok (.iand, 1) := by decide +kernel
theorem dX12_readCrosses_55 : decode cX12_readCrosses 55 = .ok (.iconst 1, 1) := by decide +kernel
theorem dX12_readCrosses_56 : decode cX12_readCrosses 56 = .ok (.if_icmp .ne 8, 3) := by decide +kernel
theorem dX12_readCrosses_59 : decode cX12_readCrosses 59 = .ok (.aload_n 0, 1) := by decide +kernel
theorem dX12_readCrosses_60 : decode cX12_readCrosses 60 = .ok (.iconst 3, 1) := by decide +kernel
theorem dX12_readCrosses_61 : decode cX12_readCrosses 61 = .ok (.invokevirtual 168, 3) := by decide +kernel
theorem dX12_readCrosses_64 : decode cX12_readCrosses 64 = .ok (.aload_n 0, 1) := by decide +kernel
theorem dX12_readCrosses_65 : decode cX12_readCrosses 65 = .ok (.dup, 1) := by decide +kernel
theorem dX12_readCrosses_66 : decode cX12_readCrosses 66 = .ok (.getfield 159, 3) := by decide +kernel
theorem dX12_readCrosses_69 : decode cX12_readCrosses 69 = .ok (.aload_n 0, 1) := by decide +kernel
theorem dX12_readCrosses_70 : decode cX12_readCrosses 70 = .ok (.getfield 162, 3) := by decide +kernel
theorem dX12_readCrosses_73 : decode cX12_readCrosses 73 = .ok (.ifCond .le 7, 3) := by decide +kernel
theorem dX12_readCrosses_76 : decode cX12_readCrosses 76 = .ok (.iconst 0, 1) := by decide +kernel
theorem dX12_readCrosses_77 : decode cX12_readCrosses 77 = .ok (.goto 4, 3) := by decide +kernel
theorem dX12_readCrosses_80 : decode cX12_readCrosses 80 = .ok (.iconst 1, 1) := by decide +kernel
theorem dX12_readCrosses_81 : decode cX12_readCrosses 81 = .ok (.iadd, 1) := by decide +kernel
theorem dX12_readCrosses_82 : decode cX12_readCrosses 82 = .ok (.putfield 159, 3) := by decide +kernel
theorem dX12_readCrosses_85 : decode cX12_readCrosses 85 = .ok (.aload_n 0, 1) := by decide +kernel
theorem dX12_readCrosses_86 : decode cX12_readCrosses 86 = .ok (.getfield 162, 3) := by decide +kernel
theorem dX12_readCrosses_89 : decode cX12_readCrosses 89 = .ok (.ifCond .ne 34, 3) := by decide +kernel
theorem dX12_readCrosses_92 : decode cX12_readCrosses 92 = .ok (.aload_n 0, 1) := by decide +kernel
theorem dX12_readCrosses_93 : decode cX12_readCrosses 93 = .ok (.getfield 83, 3) := by decide +kernel
theorem dX12_readCrosses_96 : decode cX12_readCrosses 96 = .ok (.iload_n 3, 1) := by decide +kernel
theorem dX12_readCrosses_97 : decode cX12_readCrosses 97 = .ok (.dup2, 1) := by decide +kernel
theorem dX12_readCrosses_98 : decode cX12_readCrosses 98 = .ok (.iaload, 1) := by decide +kernel
theorem dX12_readCrosses_99 : decode cX12_readCrosses 99 = .ok (.iconst 1, 1) := by decide +kernel
theorem dX12_readCrosses_100 : decode cX12_readCrosses 100 = .ok (.iload_n 2, 1) := by decide +kernel
theorem dX12_readCrosses_101 : decode cX12_readCrosses 101 = .ok (.ishl, 1) := by decide +kernel
theorem dX12_readCrosses_102 : decode cX12_readCrosses 102 = .ok (.ior, 1) := by decide +kernel
theorem dX12_readCrosses_103 : decode cX12_readCrosses 103 = .ok (.iastore, 1) := by decide +kernel
theorem dX12_readCrosses_104 : decode cX12_readCrosses 104 = .ok (.aload_n 0, 1) := by decide +kernel
theorem dX12_readCrosses_105 : decode cX12_readCrosses 105 = .ok (.getfield 83, 3) := by decide +kernel
theorem dX12_readCrosses_108 : decode cX12_readCrosses 108 = .ok (.bipush 44, 2) := by decide +kernel
theorem dX12_readCrosses_110 : decode cX12_readCrosses 110 = .ok (.iconst 2, 1) := by decide +kernel
theorem dX12_readCrosses_111 : decode cX12_readCrosses 111 = .ok (.iload_n 2, 1) := by decide +kernel
theorem dX12_readCrosses_112 : decode cX12_readCrosses 112 = .ok (.imul, 1) := by decide +kernel
theorem dX12_readCrosses_113 : decode cX12_readCrosses 113 = .ok (.iadd, 1) := by decide +kernel
theorem dX12_readCrosses_114 : decode cX12_readCrosses 114 = .ok (.iconst 1, 1) := by decide +kernel
theorem dX12_readCrosses_115 : decode cX12_readCrosses 115 = .ok (.iadd, 1) := by decide +kernel
theorem dX12_readCrosses_116 : decode cX12_readCrosses 116 = .ok (.dup2, 1) := by decide +kernel
theorem dX12_readCrosses_117 : decode cX12_readCrosses 117 = .ok (.iaload, 1) := by decide +kernel
theorem dX12_readCrosses_118 : decode cX12_readCrosses 118 = .ok (.iconst 1, 1) := by decide +kernel
theorem dX12_readCrosses_119 : decode cX12_readCrosses 119 = .ok (.iload_n 1, 1) := by decide +kernel
theorem dX12_readCrosses_120 : decode cX12_readCrosses 120 = .ok (.ishl, 1) := by decide +kernel
theorem dX12_readCrosses_121 : decode cX12_readCrosses 121 = .ok (.ior, 1) := by decide +kernel
theorem dX12_readCrosses_122 : decode cX12_readCrosses 122 = .ok (.iastore, 1) := by decide +kernel
theorem dX12_readCrosses_123 : decode cX12_readCrosses 123 = .ok (.return_, 1) := by decide +kernel
noncomputable def FX12_readCrosses (a0 : Nat) : PP Unit := bd (gI a0 7) (fun x1 => bd (sI a0 7 (x1 + (1 : Int32))) (fun (_ : Unit) => bd (FX12_takeTold a0 (1 : Int32) (0 : Int32)) (fun x2 => bd (FX12_toldHere a0 (1 : Int32) (0 : Int32)) (fun x3 => lt (((44 : Int32) + ((2 : Int32) * x2)) + (1 : Int32)) (fun y4 => bd (gI a0 8) (fun x5 => bd (if x5 = 0 then if x2 = x3 then bd (FX12_wrong a0 (3 : Int32)) (fun (_ : Unit) => pu ()) else bd (aI (rf a0 10) 80 y4) (fun x7 => if ((x7 >>> (x3 &&& 31)) &&& (1 : Int32)) = (1 : Int32) then bd (FX12_wrong a0 (3 : Int32)) (fun (_ : Unit) => pu ()) else pu ()) else pu () : PP (Unit)) (fun (v9 : Unit) => bd (gI a0 7) (fun x10 => bd (gI a0 8) (fun x11 => bd (if x11 ≤ 0 then pu (1 : Int32) else pu (0 : Int32) : PP (Int32)) (fun (v12 : Int32) => bd (sI a0 7 (x10 + v12)) (fun (_ : Unit) => bd (gI a0 8) (fun x13 => bd (if x13 = 0 then bd (aI (rf a0 10) 80 y4) (fun x14 => bd (uI (rf a0 10) 80 y4 (x14 ||| ((1 : Int32) <<< (x3 &&& 31)))) (fun (_ : Unit) => bd (aI (rf a0 10) 80 (((44 : Int32) + ((2 : Int32) * x3)) + (1 : Int32))) (fun x15 => bd (uI (rf a0 10) 80 (((44 : Int32) + ((2 : Int32) * x3)) + (1 : Int32)) (x15 ||| ((1 : Int32) <<< (x2 &&& 31)))) (fun (_ : Unit) => pu ())))) else pu () : PP (Unit)) (fun (v16 : Unit) => pu ())))))))))))))
set_option maxHeartbeats 4000000 in
set_option maxRecDepth 100000 in
theorem SX12_readCrosses {l : Launch} {K : KK} {n : Nat} {hn : 270 ≤ n} (a0 : Nat) (h0 : ob a0 11) : CT l K n 5 mX12_readCrosses [.ref (K.2.1 + a0)] enU (FX12_readCrosses a0) := by
  refine CT.of2 (lv2 := [(0, .ref (K.2.1 + a0))]) (by decide) rfl hn (Nat.le_of_ble_eq_true rfl) rfl (rp_id ?_)
  unfold FX12_readCrosses
  refine rp_aload_n 0 dX12_readCrosses_0 rfl ?_
  refine rp_dup dX12_readCrosses_1 rfl ?_
  refine rp_getI fi_X12_159 h0 rfl dX12_readCrosses_2 (fun x1 => ?_)
  refine rp_iconst (1 : Int32) dX12_readCrosses_5 (by decide) ?_
  refine rp_iadd dX12_readCrosses_6 ?_
  refine rp_putI fi_X12_159 fp_X12_7 h0 rfl dX12_readCrosses_7 ?_
  refine rp_aload_n 0 dX12_readCrosses_10 rfl ?_
  refine rp_iconst (1 : Int32) dX12_readCrosses_11 (by decide) ?_
  refine rp_iconst (0 : Int32) dX12_readCrosses_12 (by decide) ?_
  refine rp_callVi [.int (1 : Int32), .int (0 : Int32)] (SX12_takeTold (hn := hn) a0 (1 : Int32) (0 : Int32) h0) cvX12_takeTold (mw (i := 1495) (by decide +kernel)) (by omega) h0 (by decide) rfl rfl rfl (Nat.le_of_ble_eq_true rfl) dX12_readCrosses_13 (fun x2 => ?_)
  refine rp_istore_n [(1, .int x2), (0, .ref (K.2.1 + a0))] dX12_readCrosses_16 (by decide) rfl ?_
  refine rp_aload_n 1 dX12_readCrosses_17 rfl ?_
  refine rp_iconst (1 : Int32) dX12_readCrosses_18 (by decide) ?_
  refine rp_iconst (0 : Int32) dX12_readCrosses_19 (by decide) ?_
  refine rp_callVi [.int (1 : Int32), .int (0 : Int32)] (SX12_toldHere (hn := hn) a0 (1 : Int32) (0 : Int32) h0) cvX12_toldHere (mw (i := 1480) (by decide +kernel)) (by omega) h0 (by decide) rfl rfl rfl (Nat.le_of_ble_eq_true rfl) dX12_readCrosses_20 (fun x3 => ?_)
  refine rp_istore_n [(2, .int x3), (1, .int x2), (0, .ref (K.2.1 + a0))] dX12_readCrosses_23 (by decide) rfl ?_
  refine rp_bipush (44 : Int32) dX12_readCrosses_24 (by decide) ?_
  refine rp_iconst (2 : Int32) dX12_readCrosses_26 (by decide) ?_
  refine rp_iload_n 1 dX12_readCrosses_27 rfl ?_
  refine rp_imul dX12_readCrosses_28 ?_
  refine rp_iadd dX12_readCrosses_29 ?_
  refine rp_iconst (1 : Int32) dX12_readCrosses_30 (by decide) ?_
  refine rp_iadd dX12_readCrosses_31 ?_
  refine rp_lti (fun y4 => ?_)
  refine rp_istore_n [(3, .int y4), (2, .int x3), (1, .int x2), (0, .ref (K.2.1 + a0))] dX12_readCrosses_32 (by decide) rfl ?_
  refine rp_aload_n 3 dX12_readCrosses_33 rfl ?_
  refine rp_getI fi_X12_162 h0 rfl dX12_readCrosses_34 (fun x5 => ?_)
  refine rp_as ?_
  refine rp_join 64 (fun (v9 : Unit) => [(0, .ref (K.2.1 + a0)), (1, .int x2), (2, .int x3), (3, .int y4)]) (fun v9 => []) (fun v9 => ?_) (fun hJ64 => ?_)
  · refine rp_aload_n 0 dX12_readCrosses_64 rfl ?_
    refine rp_dup dX12_readCrosses_65 rfl ?_
    refine rp_getI fi_X12_159 h0 rfl dX12_readCrosses_66 (fun x10 => ?_)
    refine rp_aload_n 0 dX12_readCrosses_69 rfl ?_
    refine rp_getI fi_X12_162 h0 rfl dX12_readCrosses_70 (fun x11 => ?_)
    refine rp_as ?_
    refine rp_join 81 (fun (v12 : Int32) => [(0, .ref (K.2.1 + a0)), (1, .int x2), (2, .int x3), (3, .int y4)]) (fun v12 => [.int v12, .int x10, .ref (K.2.1 + a0)]) (fun v12 => ?_) (fun hJ81 => ?_)
    · refine rp_iadd dX12_readCrosses_81 ?_
      refine rp_putI fi_X12_159 fp_X12_7 h0 rfl dX12_readCrosses_82 ?_
      refine rp_aload_n 0 dX12_readCrosses_85 rfl ?_
      refine rp_getI fi_X12_162 h0 rfl dX12_readCrosses_86 (fun x13 => ?_)
      refine rp_as ?_
      refine rp_join 123 (fun (v16 : Unit) => []) (fun v16 => []) (fun v16 => ?_) (fun hJ123 => ?_)
      · exact rp_pu (rp_vret rfl dX12_readCrosses_123)
      refine rp_if_ne 123 dX12_readCrosses_89 (by decide) ?_ ?_
      · exact rp_sub [] rfl (rp_pu (hJ123 ()))
      · refine rp_aload_n 0 dX12_readCrosses_92 rfl ?_
        refine rp_getR fi_X12_83 h0 rfl dX12_readCrosses_93 ?_
        refine rp_iload_n 3 dX12_readCrosses_96 rfl ?_
        refine rp_dup2 dX12_readCrosses_97 rfl rfl ?_
        refine rp_iald (tX12_10 h0) dX12_readCrosses_98 (fun x14 => ?_)
        refine rp_iconst (1 : Int32) dX12_readCrosses_99 (by decide) ?_
        refine rp_iload_n 2 dX12_readCrosses_100 rfl ?_
        refine rp_ishl dX12_readCrosses_101 ?_
        refine rp_ior dX12_readCrosses_102 ?_
        refine rp_iast (tX12_10 h0) dX12_readCrosses_103 ?_
        refine rp_aload_n 0 dX12_readCrosses_104 rfl ?_
        refine rp_getR fi_X12_83 h0 rfl dX12_readCrosses_105 ?_
        refine rp_bipush (44 : Int32) dX12_readCrosses_108 (by decide) ?_
        refine rp_iconst (2 : Int32) dX12_readCrosses_110 (by decide) ?_
        refine rp_iload_n 2 dX12_readCrosses_111 rfl ?_
        refine rp_imul dX12_readCrosses_112 ?_
        refine rp_iadd dX12_readCrosses_113 ?_
        refine rp_iconst (1 : Int32) dX12_readCrosses_114 (by decide) ?_
        refine rp_iadd dX12_readCrosses_115 ?_
        refine rp_dup2 dX12_readCrosses_116 rfl rfl ?_
        refine rp_iald (tX12_10 h0) dX12_readCrosses_117 (fun x15 => ?_)
        refine rp_iconst (1 : Int32) dX12_readCrosses_118 (by decide) ?_
        refine rp_iload_n 1 dX12_readCrosses_119 rfl ?_
        refine rp_ishl dX12_readCrosses_120 ?_
        refine rp_ior dX12_readCrosses_121 ?_
        refine rp_iast (tX12_10 h0) dX12_readCrosses_122 ?_
        exact rp_sub [] rfl (rp_pu (hJ123 ()))
    refine rp_if_le 80 dX12_readCrosses_73 (by decide) ?_ ?_
    · refine rp_iconst (1 : Int32) dX12_readCrosses_80 (by decide) ?_
      exact rp_sub [0, 1, 2, 3] rfl (rp_pu (hJ81 (1 : Int32)))
    · refine rp_iconst (0 : Int32) dX12_readCrosses_76 (by decide) ?_
      refine rp_goto 81 dX12_readCrosses_77 (by decide) ?_
      exact rp_sub [0, 1, 2, 3] rfl (rp_pu (hJ81 (0 : Int32)))
  refine rp_if_ne 64 dX12_readCrosses_37 (by decide) ?_ ?_
  · exact rp_sub [3, 2, 1, 0] rfl (rp_pu (hJ64 ()))
  · refine rp_iload_n 2 dX12_readCrosses_40 rfl ?_
    refine rp_iload_n 1 dX12_readCrosses_41 rfl ?_
    refine rp_icmp_eq 59 dX12_readCrosses_42 (by decide) ?_ ?_
    · refine rp_aload_n 3 dX12_readCrosses_59 rfl ?_
      refine rp_iconst (3 : Int32) dX12_readCrosses_60 (by decide) ?_
      refine rp_callVv [.int (3 : Int32)] (SX12_wrong (hn := hn) a0 (3 : Int32) h0) cvX12_wrong (mw (i := 1444) (by decide +kernel)) (by omega) h0 (by decide) rfl rfl rfl (Nat.le_of_ble_eq_true rfl) dX12_readCrosses_61 (fun x6 => ?_)
      exact rp_sub [3, 2, 1, 0] rfl (rp_pu (hJ64 ()))
    · refine rp_aload_n 3 dX12_readCrosses_45 rfl ?_
      refine rp_getR fi_X12_83 h0 rfl dX12_readCrosses_46 ?_
      refine rp_iload_n 0 dX12_readCrosses_49 rfl ?_
      refine rp_iald (tX12_10 h0) dX12_readCrosses_50 (fun x7 => ?_)
      refine rp_iload_n 1 dX12_readCrosses_51 rfl ?_
      refine rp_ishr dX12_readCrosses_52 ?_
      refine rp_iconst (1 : Int32) dX12_readCrosses_53 (by decide) ?_
      refine rp_iand dX12_readCrosses_54 ?_
      refine rp_iconst (1 : Int32) dX12_readCrosses_55 (by decide) ?_
      refine rp_icmp_ne 64 dX12_readCrosses_56 (by decide) ?_ ?_
      · exact rp_sub [3, 2, 1, 0] rfl (rp_pu (hJ64 ()))
      · refine rp_aload_n 3 dX12_readCrosses_59 rfl ?_
        refine rp_iconst (3 : Int32) dX12_readCrosses_60 (by decide) ?_
        refine rp_callVv [.int (3 : Int32)] (SX12_wrong (hn := hn) a0 (3 : Int32) h0) cvX12_wrong (mw (i := 1444) (by decide +kernel)) (by omega) h0 (by decide) rfl rfl rfl (Nat.le_of_ble_eq_true rfl) dX12_readCrosses_61 (fun x8 => ?_)
        exact rp_sub [3, 2, 1, 0] rfl (rp_pu (hJ64 ()))

theorem dX12_morning_0 : decode cX12_morning 0 = .ok (.aload_n 0, 1) := by decide +kernel
theorem dX12_morning_1 : decode cX12_morning 1 = .ok (.iconst 0, 1) := by decide +kernel
theorem dX12_morning_2 : decode cX12_morning 2 = .ok (.putfield 1, 3) := by decide +kernel
theorem dX12_morning_5 : decode cX12_morning 5 = .ok (.aload_n 0, 1) := by decide +kernel
theorem dX12_morning_6 : decode cX12_morning 6 = .ok (.invokevirtual 209, 3) := by decide +kernel
theorem dX12_morning_9 : decode cX12_morning 9 = .ok (.iconst 0, 1) := by decide +kernel
theorem dX12_morning_10 : decode cX12_morning 10 = .ok (.istore_n 1, 1) := by decide +kernel
theorem dX12_morning_11 : decode cX12_morning 11 = .ok (.aload_n 0, 1) := by decide +kernel
theorem dX12_morning_12 : decode cX12_morning 12 = .ok (.getfield 162, 3) := by decide +kernel
theorem dX12_morning_15 : decode cX12_morning 15 = .ok (.ifCond .ne 154, 3) := by decide +kernel
theorem dX12_morning_18 : decode cX12_morning 18 = .ok (.aload_n 0, 1) := by decide +kernel
theorem dX12_morning_19 : decode cX12_morning 19 = .ok (.getfield 24, 3) := by decide +kernel
theorem dX12_morning_22 : decode cX12_morning 22 = .ok (.aload_n 0, 1) := by decide +kernel
theorem dX12_morning_23 : decode cX12_morning 23 = .ok (.getfield 159, 3) := by decide +kernel
theorem dX12_morning_26 : decode cX12_morning 26 = .ok (.iaload, 1) := by decide +kernel
theorem dX12_morning_27 : decode cX12_morning 27 = .ok (.ifCond .eq 142, 3) := by decide +kernel
theorem dX12_morning_30 : decode cX12_morning 30 = .ok (.aload_n 0, 1) := by decide +kernel
theorem dX12_morning_31 : decode cX12_morning 31 = .ok (.bipush 8, 2) := by decide +kernel
theorem dX12_morning_33 : decode cX12_morning 33 = .ok (.iconst 4, 1) := by decide +kernel
theorem dX12_morning_34 : decode cX12_morning 34 = .ok (.invokevirtual 184, 3) := by decide +kernel
theorem dX12_morning_37 : decode cX12_morning 37 = .ok (.istore_n 2, 1) := by decide +kernel
theorem dX12_morning_38 : decode cX12_morning 38 = .ok (.iload_n 2, 1) := by decide +kernel
theorem dX12_morning_39 : decode cX12_morning 39 = .ok (.ifCond .ge 11, 3) := by decide +kernel
theorem dX12_morning_42 : decode cX12_morning 42 = .ok (.aload_n 0, 1) := by decide +kernel
theorem dX12_morning_43 : decode cX12_morning 43 = .ok (.iconst 1, 1) := by decide +kernel
theorem dX12_morning_44 : decode cX12_morning 44 = .ok (.invokevirtual 168, 3) := by decide +kernel
theorem dX12_morning_47 : decode cX12_morning 47 = .ok (.goto 113, 3) := by decide +kernel
theorem dX12_morning_50 : decode cX12_morning 50 = .ok (.iload_n 1, 1) := by decide +kernel
theorem dX12_morning_51 : decode cX12_morning 51 = .ok (.bipush 40, 2) := by decide +kernel
theorem dX12_morning_53 : decode cX12_morning 53 = .ok (.if_icmp .ne 11, 3) := by decide +kernel
theorem dX12_morning_56 : decode cX12_morning 56 = .ok (.aload_n 0, 1) := by decide +kernel
theorem dX12_morning_57 : decode cX12_morning 57 = .ok (.iconst 5, 1) := by decide +kernel
theorem dX12_morning_58 : decode cX12_morning 58 = .ok (.invokevirtual 168, 3) := by decide +kernel
theorem dX12_morning_61 : decode cX12_morning 61 = .ok (.goto 99, 3) := by decide +kernel
theorem dX12_morning_64 : decode cX12_morning 64 = .ok (.aload_n 0, 1) := by decide +kernel
theorem dX12_morning_65 : decode cX12_morning 65 = .ok (.dup, 1) := by decide +kernel
theorem dX12_morning_66 : decode cX12_morning 66 = .ok (.getfield 159, 3) := by decide +kernel
theorem dX12_morning_69 : decode cX12_morning 69 = .ok (.iconst 1, 1) := by decide +kernel
theorem dX12_morning_70 : decode cX12_morning 70 = .ok (.iadd, 1) := by decide +kernel
theorem dX12_morning_71 : decode cX12_morning 71 = .ok (.putfield 159, 3) := by decide +kernel
theorem dX12_morning_74 : decode cX12_morning 74 = .ok (.sipush 165, 3) := by decide +kernel
theorem dX12_morning_77 : decode cX12_morning 77 = .ok (.iconst 4, 1) := by decide +kernel
theorem dX12_morning_78 : decode cX12_morning 78 = .ok (.iload_n 1, 1) := by decide +kernel
theorem dX12_morning_79 : decode cX12_morning 79 = .ok (.imul, 1) := by decide +kernel
theorem dX12_morning_80 : decode cX12_morning 80 = .ok (.iadd, 1) := by decide +kernel
theorem dX12_morning_81 : decode cX12_morning 81 = .ok (.istore_n 3, 1) := by decide +kernel
theorem dX12_morning_82 : decode cX12_morning 82 = .ok (.aload_n 0, 1) := by decide +kernel
theorem dX12_morning_83 : decode cX12_morning 83 = .ok (.getfield 104, 3) := by decide +kernel
theorem dX12_morning_86 : decode cX12_morning 86 = .ok (.iload_n 3, 1) := by decide +kernel
theorem dX12_morning_87 : decode cX12_morning 87 = .ok (.iload_n 2, 1) := by decide +kernel
theorem dX12_morning_88 : decode cX12_morning 88 = .ok (.iastore, 1) := by decide +kernel
theorem dX12_morning_89 : decode cX12_morning 89 = .ok (.aload_n 0, 1) := by decide +kernel
theorem dX12_morning_90 : decode cX12_morning 90 = .ok (.getfield 104, 3) := by decide +kernel
theorem dX12_morning_93 : decode cX12_morning 93 = .ok (.iload_n 3, 1) := by decide +kernel
theorem dX12_morning_94 : decode cX12_morning 94 = .ok (.iconst 1, 1) := by decide +kernel
theorem dX12_morning_95 : decode cX12_morning 95 = .ok (.iadd, 1) := by decide +kernel
theorem dX12_morning_96 : decode cX12_morning 96 = .ok (.iload_n 2, 1) := by decide +kernel
theorem dX12_morning_97 : decode cX12_morning 97 = .ok (.iconst 3, 1) := by decide +kernel
theorem dX12_morning_98 : decode cX12_morning 98 = .ok (.if_icmp .ge 13, 3) := by decide +kernel
theorem dX12_morning_101 : decode cX12_morning 101 = .ok (.aload_n 0, 1) := by decide +kernel
theorem dX12_morning_102 : decode cX12_morning 102 = .ok (.iconst 0, 1) := by decide +kernel
theorem dX12_morning_103 : decode cX12_morning 103 = .ok (.bipush 40, 2) := by decide +kernel
theorem dX12_morning_105 : decode cX12_morning 105 = .ok (.invokevirtual 241, 3) := by decide +kernel
theorem dX12_morning_108 : decode cX12_morning 108 = .ok (.goto 4, 3) := by decide +kernel
theorem dX12_morning_111 : decode cX12_morning 111 = .ok (.iconst 0, 1) := by decide +kernel
theorem dX12_morning_112 : decode cX12_morning 112 = .ok (.iastore, 1) := by decide +kernel
theorem dX12_morning_113 : decode cX12_morning 113 = .ok (.aload_n 0, 1) := by decide +kernel
theorem dX12_morning_114 : decode cX12_morning 114 = .ok (.getfield 104, 3) := by decide +kernel
theorem dX12_morning_117 : decode cX12_morning 117 = .ok (.iload_n 3, 1) := by decide +kernel
theorem dX12_morning_118 : decode cX12_morning 118 = .ok (.iconst 2, 1) := by decide +kernel
theorem dX12_morning_119 : decode cX12_morning 119 = .ok (.iadd, 1) := by decide +kernel
theorem dX12_morning_120 : decode cX12_morning 120 = .ok (.iload_n 2, 1) := by decide +kernel
theorem dX12_morning_121 : decode cX12_morning 121 = .ok (.ifCond .ne 12, 3) := by decide +kernel
theorem dX12_morning_124 : decode cX12_morning 124 = .ok (.aload_n 0, 1) := by decide +kernel
theorem dX12_morning_125 : decode cX12_morning 125 = .ok (.iconst 0, 1) := by decide +kernel
theorem dX12_morning_126 : decode cX12_morning 126 = .ok (.iconst 0, 1) := by decide +kernel
theorem dX12_morning_127 : decode cX12_morning 127 = .ok (.invokevirtual 241, 3) := by decide +kernel
theorem dX12_morning_130 : decode cX12_morning 130 = .ok (.goto 4, 3) := by decide +kernel
theorem dX12_morning_133 : decode cX12_morning 133 = .ok (.iconst 0, 1) := by decide +kernel
theorem dX12_morning_134 : decode cX12_morning 134 = .ok (.iastore, 1) := by decide +kernel
theorem dX12_morning_135 : decode cX12_morning 135 = .ok (.aload_n 0, 1) := by decide +kernel
theorem dX12_morning_136 : decode cX12_morning 136 = .ok (.getfield 104, 3) := by decide +kernel
theorem dX12_morning_139 : decode cX12_morning 139 = .ok (.iload_n 3, 1) := by decide +kernel
theorem dX12_morning_140 : decode cX12_morning 140 = .ok (.iconst 3, 1) := by decide +kernel
theorem dX12_morning_141 : decode cX12_morning 141 = .ok (.iadd, 1) := by decide +kernel
theorem dX12_morning_142 : decode cX12_morning 142 = .ok (.iload_n 2, 1) := by decide +kernel
theorem dX12_morning_143 : decode cX12_morning 143 = .ok (.ifCond .ne 12, 3) := by decide +kernel
theorem dX12_morning_146 : decode cX12_morning 146 = .ok (.aload_n 0, 1) := by decide +kernel
theorem dX12_morning_147 : decode cX12_morning 147 = .ok (.iconst 1, 1) := by decide +kernel
theorem dX12_morning_148 : decode cX12_morning 148 = .ok (.iconst 3, 1) := by decide +kernel
theorem dX12_morning_149 : decode cX12_morning 149 = .ok (.invokevirtual 180, 3) := by decide +kernel
theorem dX12_morning_152 : decode cX12_morning 152 = .ok (.goto 4, 3) := by decide +kernel
theorem dX12_morning_155 : decode cX12_morning 155 = .ok (.iconst 0, 1) := by decide +kernel
theorem dX12_morning_156 : decode cX12_morning 156 = .ok (.iastore, 1) := by decide +kernel
theorem dX12_morning_157 : decode cX12_morning 157 = .ok (.iinc 1 1, 3) := by decide +kernel
theorem dX12_morning_160 : decode cX12_morning 160 = .ok (.aload_n 0, 1) := by decide +kernel
theorem dX12_morning_161 : decode cX12_morning 161 = .ok (.bipush 59, 2) := by decide +kernel
theorem dX12_morning_163 : decode cX12_morning 163 = .ok (.invokevirtual 218, 3) := by decide +kernel
theorem dX12_morning_166 : decode cX12_morning 166 = .ok (.goto (-155), 3) := by decide +kernel
theorem dX12_morning_169 : decode cX12_morning 169 = .ok (.aload_n 0, 1) := by decide +kernel
theorem dX12_morning_170 : decode cX12_morning 170 = .ok (.getfield 162, 3) := by decide +kernel
theorem dX12_morning_173 : decode cX12_morning 173 = .ok (.ifCond .le 8, 3) := by decide +kernel
theorem dX12_morning_176 : decode cX12_morning 176 = .ok (.aload_n 0, 1) := by decide +kernel
theorem dX12_morning_177 : decode cX12_morning 177 = .ok (.getfield 162, 3) := by decide +kernel
theorem dX12_morning_180 : decode cX12_morning 180 = .ok (.ireturn, 1) := by decide +kernel
theorem dX12_morning_181 : decode cX12_morning 181 = .ok (.aload_n 0, 1) := by decide +kernel
theorem dX12_morning_182 : decode cX12_morning 182 = .ok (.getfield 104, 3) := by decide +kernel
theorem dX12_morning_185 : decode cX12_morning 185 = .ok (.iconst 0, 1) := by decide +kernel
theorem dX12_morning_186 : decode cX12_morning 186 = .ok (.iload_n 1, 1) := by decide +kernel
theorem dX12_morning_187 : decode cX12_morning 187 = .ok (.iastore, 1) := by decide +kernel
theorem dX12_morning_188 : decode cX12_morning 188 = .ok (.iconst 0, 1) := by decide +kernel
theorem dX12_morning_189 : decode cX12_morning 189 = .ok (.istore_n 2, 1) := by decide +kernel
theorem dX12_morning_190 : decode cX12_morning 190 = .ok (.iload_n 2, 1) := by decide +kernel
theorem dX12_morning_191 : decode cX12_morning 191 = .ok (.iconst 4, 1) := by decide +kernel
theorem dX12_morning_192 : decode cX12_morning 192 = .ok (.iload_n 1, 1) := by decide +kernel
theorem dX12_morning_193 : decode cX12_morning 193 = .ok (.imul, 1) := by decide +kernel
theorem dX12_morning_194 : decode cX12_morning 194 = .ok (.if_icmp .ge 27, 3) := by decide +kernel
theorem dX12_morning_197 : decode cX12_morning 197 = .ok (.aload_n 0, 1) := by decide +kernel
theorem dX12_morning_198 : decode cX12_morning 198 = .ok (.getfield 104, 3) := by decide +kernel
theorem dX12_morning_201 : decode cX12_morning 201 = .ok (.iconst 1, 1) := by decide +kernel
theorem dX12_morning_202 : decode cX12_morning 202 = .ok (.iload_n 2, 1) := by decide +kernel
theorem dX12_morning_203 : decode cX12_morning 203 = .ok (.iadd, 1) := by decide +kernel
theorem dX12_morning_204 : decode cX12_morning 204 = .ok (.aload_n 0, 1) := by decide +kernel
theorem dX12_morning_205 : decode cX12_morning 205 = .ok (.getfield 104, 3) := by decide +kernel
theorem dX12_morning_208 : decode cX12_morning 208 = .ok (.sipush 165, 3) := by decide +kernel
theorem dX12_morning_211 : decode cX12_morning 211 = .ok (.iload_n 2, 1) := by decide +kernel
theorem dX12_morning_212 : decode cX12_morning 212 = .ok (.iadd, 1) := by decide +kernel
theorem dX12_morning_213 : decode cX12_morning 213 = .ok (.iaload, 1) := by decide +kernel
theorem dX12_morning_214 : decode cX12_morning 214 = .ok (.iastore, 1) := by decide +kernel
theorem dX12_morning_215 : decode cX12_morning 215 = .ok (.iinc 2 1, 3) := by decide +kernel
theorem dX12_morning_218 : decode cX12_morning 218 = .ok (.goto (-28), 3) := by decide +kernel
theorem dX12_morning_221 : decode cX12_morning 221 = .ok (.iconst 0, 1) := by decide +kernel
theorem dX12_morning_222 : decode cX12_morning 222 = .ok (.ireturn, 1) := by decide +kernel
noncomputable def FX12_morning (a0 : Nat) : PP Int32 := bd (sI a0 0 (0 : Int32)) (fun (_ : Unit) => bd (FX12_cutAll a0) (fun (_ : Unit) => bd (it (fun (s2 : Int32) => (bd (gI a0 8) (fun x3 => if x3 = 0 then bd (gI a0 7) (fun x4 => bd (aI (rf a0 4) 1002 x4) (fun x5 => if x5 = 0 then pu (Sum.inr s2) else bd (FX12_wordHere a0 (8 : Int32) (4 : Int32)) (fun x6 => bd (if 0 ≤ x6 then if s2 = (40 : Int32) then bd (FX12_wrong a0 (5 : Int32)) (fun (_ : Unit) => pu s2) else bd (gI a0 7) (fun x7 => bd (sI a0 7 (x7 + (1 : Int32))) (fun (_ : Unit) => lt ((165 : Int32) + ((4 : Int32) * s2)) (fun y8 => bd (uI (rf a0 20) 330 y8 x6) (fun (_ : Unit) => bd (if (3 : Int32) ≤ x6 then pu (0 : Int32) else bd (FX12_takeTold a0 (0 : Int32) (40 : Int32)) (fun x9 => pu x9) : PP (Int32)) (fun (v10 : Int32) => bd (uI (rf a0 20) 330 (y8 + (1 : Int32)) v10) (fun (_ : Unit) => bd (if x6 = 0 then bd (FX12_takeTold a0 (0 : Int32) (0 : Int32)) (fun x11 => pu x11) else pu (0 : Int32) : PP (Int32)) (fun (v12 : Int32) => bd (uI (rf a0 20) 330 (y8 + (2 : Int32)) v12) (fun (_ : Unit) => bd (if x6 = 0 then bd (FX12_takeNumber a0 (1 : Int32) (3 : Int32)) (fun x13 => pu x13) else pu (0 : Int32) : PP (Int32)) (fun (v14 : Int32) => bd (uI (rf a0 20) 330 (y8 + (3 : Int32)) v14) (fun (_ : Unit) => lt (s2 + (1 : Int32)) (fun y15 => pu y15))))))))))) else bd (FX12_wrong a0 (1 : Int32)) (fun (_ : Unit) => pu s2) : PP (Int32)) (fun (v18 : Int32) => bd (FX12_takeSign a0 (59 : Int32)) (fun (_ : Unit) => pu (Sum.inl v18)))))) else pu (Sum.inr s2)) : PP ((Int32) ⊕ (Int32)))) FU (0 : Int32)) (fun (v20 : Int32) => bd (gI a0 8) (fun x21 => if x21 ≤ 0 then bd (uI (rf a0 20) 330 (0 : Int32) v20) (fun (_ : Unit) => bd (it (fun (s22 : Int32) => (if ((4 : Int32) * v20) ≤ s22 then pu (Sum.inr ()) else bd (aI (rf a0 20) 330 ((165 : Int32) + s22)) (fun x23 => bd (uI (rf a0 20) 330 ((1 : Int32) + s22) x23) (fun (_ : Unit) => lt (s22 + (1 : Int32)) (fun y24 => pu (Sum.inl y24)))) : PP ((Int32) ⊕ (Unit)))) FU (0 : Int32)) (fun (v25 : Unit) => pu (0 : Int32))) else bd (gI a0 8) (fun x26 => pu x26)))))
set_option maxHeartbeats 4000000 in
set_option maxRecDepth 100000 in
theorem SX12_morning {l : Launch} {K : KK} {n : Nat} {hn : 270 ≤ n} (a0 : Nat) (h0 : ob a0 11) : CT l K n 5 mX12_morning [.ref (K.2.1 + a0)] enI (FX12_morning a0) := by
  refine CT.of2 (lv2 := [(0, .ref (K.2.1 + a0))]) (by decide) rfl hn (Nat.le_of_ble_eq_true rfl) rfl (rp_id ?_)
  unfold FX12_morning
  refine rp_aload_n 0 dX12_morning_0 rfl ?_
  refine rp_iconst (0 : Int32) dX12_morning_1 (by decide) ?_
  refine rp_putI fi_X12_1 fp_X12_0 h0 rfl dX12_morning_2 ?_
  refine rp_aload_n 0 dX12_morning_5 rfl ?_
  refine rp_callVv [] (SX12_cutAll (hn := hn) a0 h0) cvX12_cutAll (mw (i := 1413) (by decide +kernel)) (by omega) h0 (by decide) rfl rfl rfl (Nat.le_of_ble_eq_true rfl) dX12_morning_6 (fun x1 => ?_)
  refine rp_iconst (0 : Int32) dX12_morning_9 (by decide) ?_
  refine rp_istore_n [(1, .int (0 : Int32)), (0, .ref (K.2.1 + a0))] dX12_morning_10 (by decide) rfl ?_
  refine rp_as ?_
  refine rp_join 169 (fun v20 => [(0, .ref (K.2.1 + a0)), (1, .int v20)]) (fun _ => []) (fun v20 => ?_) (fun hX11_0 => ?_)
  · refine rp_aload_n 0 dX12_morning_169 rfl ?_
    refine rp_getI fi_X12_162 h0 rfl dX12_morning_170 (fun x21 => ?_)
    refine rp_if_le 181 dX12_morning_173 (by decide) ?_ ?_
    · refine rp_aload_n 0 dX12_morning_181 rfl ?_
      refine rp_getR fi_X12_104 h0 rfl dX12_morning_182 ?_
      refine rp_iconst (0 : Int32) dX12_morning_185 (by decide) ?_
      refine rp_iload_n 1 dX12_morning_186 rfl ?_
      refine rp_iast (tX12_20 h0) dX12_morning_187 ?_
      refine rp_iconst (0 : Int32) dX12_morning_188 (by decide) ?_
      refine rp_istore_n [(2, .int (0 : Int32)), (0, .ref (K.2.1 + a0)), (1, .int v20)] dX12_morning_189 (by decide) rfl ?_
      refine rp_as ?_
      refine rp_join 221 (fun v25 => []) (fun _ => []) (fun v25 => ?_) (fun hX190_0 => ?_)
      · refine rp_iconst (0 : Int32) dX12_morning_221 (by decide) ?_
        exact rp_pu (rp_iret rfl dX12_morning_222)
      refine rp_sub [1, 2, 0] rfl (rp_it (fun (s22 : Int32) => [(0, .ref (K.2.1 + a0)), (1, .int v20), (2, .int s22)]) (fun N190 ih190 s22 => ?_) FU (0 : Int32))
      refine rp_iload_n 2 dX12_morning_190 rfl ?_
      refine rp_iconst (4 : Int32) dX12_morning_191 (by decide) ?_
      refine rp_iload_n 1 dX12_morning_192 rfl ?_
      refine rp_imul dX12_morning_193 ?_
      refine rp_icmp_ge 221 dX12_morning_194 (by decide) ?_ ?_
      · exact rp_sub [] rfl (rp_puR (hX190_0 ()))
      · refine rp_aload_n 0 dX12_morning_197 rfl ?_
        refine rp_getR fi_X12_104 h0 rfl dX12_morning_198 ?_
        refine rp_iconst (1 : Int32) dX12_morning_201 (by decide) ?_
        refine rp_iload_n 2 dX12_morning_202 rfl ?_
        refine rp_iadd dX12_morning_203 ?_
        refine rp_aload_n 0 dX12_morning_204 rfl ?_
        refine rp_getR fi_X12_104 h0 rfl dX12_morning_205 ?_
        refine rp_sipush (165 : Int32) dX12_morning_208 (by decide) ?_
        refine rp_iload_n 2 dX12_morning_211 rfl ?_
        refine rp_iadd dX12_morning_212 ?_
        refine rp_iald (tX12_20 h0) dX12_morning_213 (fun x23 => ?_)
        refine rp_iast (tX12_20 h0) dX12_morning_214 ?_
        refine rp_iinc (fun y24 => [(2, .int y24), (0, .ref (K.2.1 + a0)), (1, .int v20)]) 2 dX12_morning_215 rfl (by rfl) (by decide) (fun y24 => rfl) (fun y24 => ?_)
        refine rp_goto 190 dX12_morning_218 (by decide) ?_
        exact rp_sub [1, 2, 0] rfl (ih190 y24)
    · refine rp_aload_n 0 dX12_morning_176 rfl ?_
      refine rp_getI fi_X12_162 h0 rfl dX12_morning_177 (fun x26 => ?_)
      exact rp_pu (rp_iret rfl dX12_morning_180)
  refine rp_sub [1, 0] rfl (rp_it (fun (s2 : Int32) => [(0, .ref (K.2.1 + a0)), (1, .int s2)]) (fun N11 ih11 s2 => ?_) FU (0 : Int32))
  refine rp_aload_n 0 dX12_morning_11 rfl ?_
  refine rp_getI fi_X12_162 h0 rfl dX12_morning_12 (fun x3 => ?_)
  refine rp_if_ne 169 dX12_morning_15 (by decide) ?_ ?_
  · exact rp_sub [0, 1] rfl (rp_puR (hX11_0 s2))
  · refine rp_aload_n 0 dX12_morning_18 rfl ?_
    refine rp_getR fi_X12_24 h0 rfl dX12_morning_19 ?_
    refine rp_aload_n 0 dX12_morning_22 rfl ?_
    refine rp_getI fi_X12_159 h0 rfl dX12_morning_23 (fun x4 => ?_)
    refine rp_iald (tX12_4 h0) dX12_morning_26 (fun x5 => ?_)
    refine rp_if_eq 169 dX12_morning_27 (by decide) ?_ ?_
    · exact rp_sub [0, 1] rfl (rp_puR (hX11_0 s2))
    · refine rp_aload_n 0 dX12_morning_30 rfl ?_
      refine rp_bipush (8 : Int32) dX12_morning_31 (by decide) ?_
      refine rp_iconst (4 : Int32) dX12_morning_33 (by decide) ?_
      refine rp_callVi [.int (8 : Int32), .int (4 : Int32)] (SX12_wordHere (hn := hn) a0 (8 : Int32) (4 : Int32) h0) cvX12_wordHere (mw (i := 1452) (by decide +kernel)) (by omega) h0 (by decide) rfl rfl rfl (Nat.le_of_ble_eq_true rfl) dX12_morning_34 (fun x6 => ?_)
      refine rp_istore_n [(2, .int x6), (0, .ref (K.2.1 + a0)), (1, .int s2)] dX12_morning_37 (by decide) rfl ?_
      refine rp_iload_n 0 dX12_morning_38 rfl ?_
      refine rp_as ?_
      refine rp_join 160 (fun (v18 : Int32) => [(0, .ref (K.2.1 + a0)), (1, .int v18)]) (fun v18 => []) (fun v18 => ?_) (fun hJ160 => ?_)
      · refine rp_aload_n 0 dX12_morning_160 rfl ?_
        refine rp_bipush (59 : Int32) dX12_morning_161 (by decide) ?_
        refine rp_callVv [.int (59 : Int32)] (SX12_takeSign (hn := hn) a0 (59 : Int32) h0) cvX12_takeSign (mw (i := 1535) (by decide +kernel)) (by omega) h0 (by decide) rfl rfl rfl (Nat.le_of_ble_eq_true rfl) dX12_morning_163 (fun x19 => ?_)
        refine rp_goto 11 dX12_morning_166 (by decide) ?_
        exact rp_sub [0, 1] rfl (ih11 v18)
      refine rp_if_ge 50 dX12_morning_39 (by decide) ?_ ?_
      · refine rp_iload_n 2 dX12_morning_50 rfl ?_
        refine rp_bipush (40 : Int32) dX12_morning_51 (by decide) ?_
        refine rp_icmp_ne 64 dX12_morning_53 (by decide) ?_ ?_
        · refine rp_aload_n 1 dX12_morning_64 rfl ?_
          refine rp_dup dX12_morning_65 rfl ?_
          refine rp_getI fi_X12_159 h0 rfl dX12_morning_66 (fun x7 => ?_)
          refine rp_iconst (1 : Int32) dX12_morning_69 (by decide) ?_
          refine rp_iadd dX12_morning_70 ?_
          refine rp_putI fi_X12_159 fp_X12_7 h0 rfl dX12_morning_71 ?_
          refine rp_sipush (165 : Int32) dX12_morning_74 (by decide) ?_
          refine rp_iconst (4 : Int32) dX12_morning_77 (by decide) ?_
          refine rp_iload_n 2 dX12_morning_78 rfl ?_
          refine rp_imul dX12_morning_79 ?_
          refine rp_iadd dX12_morning_80 ?_
          refine rp_lti (fun y8 => ?_)
          refine rp_istore_n [(3, .int y8), (2, .int x6), (0, .ref (K.2.1 + a0)), (1, .int s2)] dX12_morning_81 (by decide) rfl ?_
          refine rp_aload_n 2 dX12_morning_82 rfl ?_
          refine rp_getR fi_X12_104 h0 rfl dX12_morning_83 ?_
          refine rp_iload_n 0 dX12_morning_86 rfl ?_
          refine rp_iload_n 1 dX12_morning_87 rfl ?_
          refine rp_iast (tX12_20 h0) dX12_morning_88 ?_
          refine rp_aload_n 2 dX12_morning_89 rfl ?_
          refine rp_getR fi_X12_104 h0 rfl dX12_morning_90 ?_
          refine rp_iload_n 0 dX12_morning_93 rfl ?_
          refine rp_iconst (1 : Int32) dX12_morning_94 (by decide) ?_
          refine rp_iadd dX12_morning_95 ?_
          refine rp_iload_n 1 dX12_morning_96 rfl ?_
          refine rp_iconst (3 : Int32) dX12_morning_97 (by decide) ?_
          refine rp_as ?_
          refine rp_join 112 (fun (v10 : Int32) => [(0, .ref (K.2.1 + a0)), (1, .int s2), (2, .int x6), (3, .int y8)]) (fun v10 => [.int v10, .int (y8 + (1 : Int32)), .ref (K.2.1 + (rf a0 20))]) (fun v10 => ?_) (fun hJ112 => ?_)
          · refine rp_iast (tX12_20 h0) dX12_morning_112 ?_
            refine rp_aload_n 0 dX12_morning_113 rfl ?_
            refine rp_getR fi_X12_104 h0 rfl dX12_morning_114 ?_
            refine rp_iload_n 3 dX12_morning_117 rfl ?_
            refine rp_iconst (2 : Int32) dX12_morning_118 (by decide) ?_
            refine rp_iadd dX12_morning_119 ?_
            refine rp_iload_n 2 dX12_morning_120 rfl ?_
            refine rp_as ?_
            refine rp_join 134 (fun (v12 : Int32) => [(0, .ref (K.2.1 + a0)), (1, .int s2), (2, .int x6), (3, .int y8)]) (fun v12 => [.int v12, .int (y8 + (2 : Int32)), .ref (K.2.1 + (rf a0 20))]) (fun v12 => ?_) (fun hJ134 => ?_)
            · refine rp_iast (tX12_20 h0) dX12_morning_134 ?_
              refine rp_aload_n 0 dX12_morning_135 rfl ?_
              refine rp_getR fi_X12_104 h0 rfl dX12_morning_136 ?_
              refine rp_iload_n 3 dX12_morning_139 rfl ?_
              refine rp_iconst (3 : Int32) dX12_morning_140 (by decide) ?_
              refine rp_iadd dX12_morning_141 ?_
              refine rp_iload_n 2 dX12_morning_142 rfl ?_
              refine rp_as ?_
              refine rp_join 156 (fun (v14 : Int32) => [(0, .ref (K.2.1 + a0)), (1, .int s2)]) (fun v14 => [.int v14, .int (y8 + (3 : Int32)), .ref (K.2.1 + (rf a0 20))]) (fun v14 => ?_) (fun hJ156 => ?_)
              · refine rp_iast (tX12_20 h0) dX12_morning_156 ?_
                refine rp_iinc (fun y15 => [(1, .int y15), (0, .ref (K.2.1 + a0))]) 1 dX12_morning_157 rfl (by rfl) (by decide) (fun y15 => rfl) (fun y15 => ?_)
                exact rp_sub [1, 0] rfl (rp_pu (hJ160 y15))
              refine rp_if_ne 155 dX12_morning_143 (by decide) ?_ ?_
              · refine rp_iconst (0 : Int32) dX12_morning_155 (by decide) ?_
                exact rp_sub [0, 1] rfl (rp_pu (hJ156 (0 : Int32)))
              · refine rp_aload_n 0 dX12_morning_146 rfl ?_
                refine rp_iconst (1 : Int32) dX12_morning_147 (by decide) ?_
                refine rp_iconst (3 : Int32) dX12_morning_148 (by decide) ?_
                refine rp_callVi [.int (1 : Int32), .int (3 : Int32)] (SX12_takeNumber (hn := hn) a0 (1 : Int32) (3 : Int32) h0) cvX12_takeNumber (mw (i := 1472) (by decide +kernel)) (by omega) h0 (by decide) rfl rfl rfl (Nat.le_of_ble_eq_true rfl) dX12_morning_149 (fun x13 => ?_)
                refine rp_goto 156 dX12_morning_152 (by decide) ?_
                exact rp_sub [0, 1] rfl (rp_pu (hJ156 x13))
            refine rp_if_ne 133 dX12_morning_121 (by decide) ?_ ?_
            · refine rp_iconst (0 : Int32) dX12_morning_133 (by decide) ?_
              exact rp_sub [0, 1, 2, 3] rfl (rp_pu (hJ134 (0 : Int32)))
            · refine rp_aload_n 0 dX12_morning_124 rfl ?_
              refine rp_iconst (0 : Int32) dX12_morning_125 (by decide) ?_
              refine rp_iconst (0 : Int32) dX12_morning_126 (by decide) ?_
              refine rp_callVi [.int (0 : Int32), .int (0 : Int32)] (SX12_takeTold (hn := hn) a0 (0 : Int32) (0 : Int32) h0) cvX12_takeTold (mw (i := 1495) (by decide +kernel)) (by omega) h0 (by decide) rfl rfl rfl (Nat.le_of_ble_eq_true rfl) dX12_morning_127 (fun x11 => ?_)
              refine rp_goto 134 dX12_morning_130 (by decide) ?_
              exact rp_sub [0, 1, 2, 3] rfl (rp_pu (hJ134 x11))
          refine rp_icmp_ge 111 dX12_morning_98 (by decide) ?_ ?_
          · refine rp_iconst (0 : Int32) dX12_morning_111 (by decide) ?_
            exact rp_sub [2, 3, 1, 0] rfl (rp_pu (hJ112 (0 : Int32)))
          · refine rp_aload_n 2 dX12_morning_101 rfl ?_
            refine rp_iconst (0 : Int32) dX12_morning_102 (by decide) ?_
            refine rp_bipush (40 : Int32) dX12_morning_103 (by decide) ?_
            refine rp_callVi [.int (0 : Int32), .int (40 : Int32)] (SX12_takeTold (hn := hn) a0 (0 : Int32) (40 : Int32) h0) cvX12_takeTold (mw (i := 1495) (by decide +kernel)) (by omega) h0 (by decide) rfl rfl rfl (Nat.le_of_ble_eq_true rfl) dX12_morning_105 (fun x9 => ?_)
            refine rp_goto 112 dX12_morning_108 (by decide) ?_
            exact rp_sub [2, 3, 1, 0] rfl (rp_pu (hJ112 x9))
        · refine rp_aload_n 1 dX12_morning_56 rfl ?_
          refine rp_iconst (5 : Int32) dX12_morning_57 (by decide) ?_
          refine rp_callVv [.int (5 : Int32)] (SX12_wrong (hn := hn) a0 (5 : Int32) h0) cvX12_wrong (mw (i := 1444) (by decide +kernel)) (by omega) h0 (by decide) rfl rfl rfl (Nat.le_of_ble_eq_true rfl) dX12_morning_58 (fun x16 => ?_)
          refine rp_goto 160 dX12_morning_61 (by decide) ?_
          exact rp_sub [1, 2] rfl (rp_pu (hJ160 s2))
      · refine rp_aload_n 1 dX12_morning_42 rfl ?_
        refine rp_iconst (1 : Int32) dX12_morning_43 (by decide) ?_
        refine rp_callVv [.int (1 : Int32)] (SX12_wrong (hn := hn) a0 (1 : Int32) h0) cvX12_wrong (mw (i := 1444) (by decide +kernel)) (by omega) h0 (by decide) rfl rfl rfl (Nat.le_of_ble_eq_true rfl) dX12_morning_44 (fun x17 => ?_)
        refine rp_goto 160 dX12_morning_47 (by decide) ?_
        exact rp_sub [1, 2] rfl (rp_pu (hJ160 s2))

theorem dX12_emit_0 : decode cX12_emit 0 = .ok (.aload_n 0, 1) := by decide +kernel
theorem dX12_emit_1 : decode cX12_emit 1 = .ok (.getfield 86, 3) := by decide +kernel
theorem dX12_emit_4 : decode cX12_emit 4 = .ok (.sipush 1100, 3) := by decide +kernel
theorem dX12_emit_7 : decode cX12_emit 7 = .ok (.aload_n 0, 1) := by decide +kernel
theorem dX12_emit_8 : decode cX12_emit 8 = .ok (.getfield 212, 3) := by decide +kernel
theorem dX12_emit_11 : decode cX12_emit 11 = .ok (.iadd, 1) := by decide +kernel
theorem dX12_emit_12 : decode cX12_emit 12 = .ok (.iload_n 1, 1) := by decide +kernel
theorem dX12_emit_13 : decode cX12_emit 13 = .ok (.iastore, 1) := by decide +kernel
theorem dX12_emit_14 : decode cX12_emit 14 = .ok (.aload_n 0, 1) := by decide +kernel
theorem dX12_emit_15 : decode cX12_emit 15 = .ok (.getfield 89, 3) := by decide +kernel
theorem dX12_emit_18 : decode cX12_emit 18 = .ok (.sipush 1100, 3) := by decide +kernel
theorem dX12_emit_21 : decode cX12_emit 21 = .ok (.aload_n 0, 1) := by decide +kernel
theorem dX12_emit_22 : decode cX12_emit 22 = .ok (.getfield 212, 3) := by decide +kernel
theorem dX12_emit_25 : decode cX12_emit 25 = .ok (.iadd, 1) := by decide +kernel
theorem dX12_emit_26 : decode cX12_emit 26 = .ok (.iload_n 2, 1) := by decide +kernel
theorem dX12_emit_27 : decode cX12_emit 27 = .ok (.iastore, 1) := by decide +kernel
theorem dX12_emit_28 : decode cX12_emit 28 = .ok (.aload_n 0, 1) := by decide +kernel
theorem dX12_emit_29 : decode cX12_emit 29 = .ok (.dup, 1) := by decide +kernel
theorem dX12_emit_30 : decode cX12_emit 30 = .ok (.getfield 212, 3) := by decide +kernel
theorem dX12_emit_33 : decode cX12_emit 33 = .ok (.iconst 1, 1) := by decide +kernel
theorem dX12_emit_34 : decode cX12_emit 34 = .ok (.iadd, 1) := by decide +kernel
theorem dX12_emit_35 : decode cX12_emit 35 = .ok (.putfield 212, 3) := by decide +kernel
theorem dX12_emit_38 : decode cX12_emit 38 = .ok (.return_, 1) := by decide +kernel
noncomputable def FX12_emit (a0 : Nat) (p1 : Int32) (p2 : Int32) : PP Unit := bd (gI a0 13) (fun x1 => bd (uI (rf a0 11) 2200 ((1100 : Int32) + x1) p1) (fun (_ : Unit) => bd (gI a0 13) (fun x2 => bd (uI (rf a0 12) 2200 ((1100 : Int32) + x2) p2) (fun (_ : Unit) => bd (gI a0 13) (fun x3 => bd (sI a0 13 (x3 + (1 : Int32))) (fun (_ : Unit) => pu ()))))))
set_option maxHeartbeats 4000000 in
set_option maxRecDepth 100000 in
theorem SX12_emit {l : Launch} {K : KK} {n : Nat} {hn : 270 ≤ n} (a0 : Nat) (p1 : Int32) (p2 : Int32) (h0 : ob a0 11) : CT l K n 0 mX12_emit [.ref (K.2.1 + a0), .int p1, .int p2] enU (FX12_emit a0 p1 p2) := by
  refine CT.of2 (lv2 := [(0, .ref (K.2.1 + a0)), (1, .int p1), (2, .int p2)]) (by decide) rfl hn (Nat.le_of_ble_eq_true rfl) rfl (rp_id ?_)
  unfold FX12_emit
  refine rp_aload_n 0 dX12_emit_0 rfl ?_
  refine rp_getR fi_X12_86 h0 rfl dX12_emit_1 ?_
  refine rp_sipush (1100 : Int32) dX12_emit_4 (by decide) ?_
  refine rp_aload_n 0 dX12_emit_7 rfl ?_
  refine rp_getI fi_X12_212 h0 rfl dX12_emit_8 (fun x1 => ?_)
  refine rp_iadd dX12_emit_11 ?_
  refine rp_iload_n 1 dX12_emit_12 rfl ?_
  refine rp_iast (tX12_11 h0) dX12_emit_13 ?_
  refine rp_aload_n 0 dX12_emit_14 rfl ?_
  refine rp_getR fi_X12_89 h0 rfl dX12_emit_15 ?_
  refine rp_sipush (1100 : Int32) dX12_emit_18 (by decide) ?_
  refine rp_aload_n 0 dX12_emit_21 rfl ?_
  refine rp_getI fi_X12_212 h0 rfl dX12_emit_22 (fun x2 => ?_)
  refine rp_iadd dX12_emit_25 ?_
  refine rp_iload_n 2 dX12_emit_26 rfl ?_
  refine rp_iast (tX12_12 h0) dX12_emit_27 ?_
  refine rp_aload_n 0 dX12_emit_28 rfl ?_
  refine rp_dup dX12_emit_29 rfl ?_
  refine rp_getI fi_X12_212 h0 rfl dX12_emit_30 (fun x3 => ?_)
  refine rp_iconst (1 : Int32) dX12_emit_33 (by decide) ?_
  refine rp_iadd dX12_emit_34 ?_
  refine rp_putI fi_X12_212 fp_X12_13 h0 rfl dX12_emit_35 ?_
  exact rp_pu (rp_vret rfl dX12_emit_38)

theorem dX12_products_0 : decode cX12_products 0 = .ok (.aload_n 0, 1) := by decide +kernel
theorem dX12_products_1 : decode cX12_products 1 = .ok (.iload_n 1, 1) := by decide +kernel
theorem dX12_products_2 : decode cX12_products 2 = .ok (.invokevirtual 263, 3) := by decide +kernel
theorem dX12_products_5 : decode cX12_products 5 = .ok (.aload_n 0, 1) := by decide +kernel
theorem dX12_products_6 : decode cX12_products 6 = .ok (.bipush 42, 2) := by decide +kernel
theorem dX12_products_8 : decode cX12_products 8 = .ok (.invokevirtual 257, 3) := by decide +kernel
theorem dX12_products_11 : decode cX12_products 11 = .ok (.ifCond .eq 18, 3) := by decide +kernel
theorem dX12_products_14 : decode cX12_products 14 = .ok (.aload_n 0, 1) := by decide +kernel
theorem dX12_products_15 : decode cX12_products 15 = .ok (.iload_n 1, 1) := by decide +kernel
theorem dX12_products_16 : decode cX12_products 16 = .ok (.invokevirtual 263, 3) := by decide +kernel
theorem dX12_products_19 : decode cX12_products 19 = .ok (.aload_n 0, 1) := by decide +kernel
theorem dX12_products_20 : decode cX12_products 20 = .ok (.bipush 6, 2) := by decide +kernel
theorem dX12_products_22 : decode cX12_products 22 = .ok (.iconst 0, 1) := by decide +kernel
theorem dX12_products_23 : decode cX12_products 23 = .ok (.invokevirtual 247, 3) := by decide +kernel
theorem dX12_products_26 : decode cX12_products 26 = .ok (.goto (-21), 3) := by decide +kernel
theorem dX12_products_29 : decode cX12_products 29 = .ok (.return_, 1) := by decide +kernel
noncomputable def FX12_products (self : Nat → Int32 → PP Unit) (a0 : Nat) (p1 : Int32) : PP Unit := bd (self a0 p1) (fun (_ : Unit) => bd (it (fun (s2 : Unit) => (bd (FX12_hasSign a0 (42 : Int32)) (fun x3 => if ((b2i x3)) = 0 then pu (Sum.inr ()) else bd (self a0 p1) (fun (_ : Unit) => bd (FX12_emit a0 (6 : Int32) (0 : Int32)) (fun (_ : Unit) => pu (Sum.inl ())))) : PP ((Unit) ⊕ (Unit)))) FU ()) (fun (v6 : Unit) => pu ()))
set_option maxHeartbeats 4000000 in
set_option maxRecDepth 100000 in
theorem SX12_products {l : Launch} {K : KK} {n : Nat} {dp : Nat} {self : Nat → Int32 → PP Unit} {hn : 270 ≤ n} (hs : ∀ (a0 : Nat) (p1 : Int32), ob a0 11 → CT l K n dp mX12_takePart [.ref (K.2.1 + a0), .int p1] enU (self a0 p1)) (a0 : Nat) (p1 : Int32) (h0 : ob a0 11) : CT l K n (dp + 2) mX12_products [.ref (K.2.1 + a0), .int p1] enU (FX12_products self a0 p1) := by
  refine CT.of2 (lv2 := [(0, .ref (K.2.1 + a0)), (1, .int p1)]) (by decide) rfl hn (Nat.le_of_ble_eq_true rfl) rfl (rp_id ?_)
  unfold FX12_products
  refine rp_aload_n 0 dX12_products_0 rfl ?_
  refine rp_iload_n 1 dX12_products_1 rfl ?_
  refine rp_callVv [.int p1] (hs a0 p1 h0) cvX12_takePart (mw (i := 1519) (by decide +kernel)) (by omega) h0 (by decide) rfl rfl rfl (Nat.le_of_ble_eq_true rfl) dX12_products_2 (fun x1 => ?_)
  refine rp_as ?_
  refine rp_join 29 (fun v6 => []) (fun _ => []) (fun v6 => ?_) (fun hX5_0 => ?_)
  · exact rp_pu (rp_vret rfl dX12_products_29)
  refine rp_sub [0, 1] rfl (rp_it (fun (s2 : Unit) => [(0, .ref (K.2.1 + a0)), (1, .int p1)]) (fun N5 ih5 s2 => ?_) FU ())
  refine rp_aload_n 0 dX12_products_5 rfl ?_
  refine rp_bipush (42 : Int32) dX12_products_6 (by decide) ?_
  refine rp_callVz [.int (42 : Int32)] (SX12_hasSign (hn := hn) a0 (42 : Int32) h0) cvX12_hasSign (mw (i := 1531) (by decide +kernel)) (by omega) h0 (by decide) rfl rfl rfl (Nat.le_of_ble_eq_true rfl) dX12_products_8 (fun x3 => ?_)
  refine rp_if_eq 29 dX12_products_11 (by decide) ?_ ?_
  · exact rp_sub [] rfl (rp_puR (hX5_0 ()))
  · refine rp_aload_n 0 dX12_products_14 rfl ?_
    refine rp_iload_n 1 dX12_products_15 rfl ?_
    refine rp_callVv [.int p1] (hs a0 p1 h0) cvX12_takePart (mw (i := 1519) (by decide +kernel)) (by omega) h0 (by decide) rfl rfl rfl (Nat.le_of_ble_eq_true rfl) dX12_products_16 (fun x4 => ?_)
    refine rp_aload_n 0 dX12_products_19 rfl ?_
    refine rp_bipush (6 : Int32) dX12_products_20 (by decide) ?_
    refine rp_iconst (0 : Int32) dX12_products_22 (by decide) ?_
    refine rp_callVv [.int (6 : Int32), .int (0 : Int32)] (SX12_emit (hn := hn) a0 (6 : Int32) (0 : Int32) h0) cvX12_emit (mw (i := 1527) (by decide +kernel)) (by omega) h0 (by decide) rfl rfl rfl (Nat.le_of_ble_eq_true rfl) dX12_products_23 (fun x5 => ?_)
    refine rp_goto 5 dX12_products_26 (by decide) ?_
    exact rp_sub [0, 1] rfl (ih5 ())

theorem dX12_sums_0 : decode cX12_sums 0 = .ok (.aload_n 0, 1) := by decide +kernel
theorem dX12_sums_1 : decode cX12_sums 1 = .ok (.iload_n 1, 1) := by decide +kernel
theorem dX12_sums_2 : decode cX12_sums 2 = .ok (.invokevirtual 260, 3) := by decide +kernel
theorem dX12_sums_5 : decode cX12_sums 5 = .ok (.aload_n 0, 1) := by decide +kernel
theorem dX12_sums_6 : decode cX12_sums 6 = .ok (.bipush 43, 2) := by decide +kernel
theorem dX12_sums_8 : decode cX12_sums 8 = .ok (.invokevirtual 165, 3) := by decide +kernel
theorem dX12_sums_11 : decode cX12_sums 11 = .ok (.ifCond .ne 12, 3) := by decide +kernel
theorem dX12_sums_14 : decode cX12_sums 14 = .ok (.aload_n 0, 1) := by decide +kernel
theorem dX12_sums_15 : decode cX12_sums 15 = .ok (.bipush 45, 2) := by decide +kernel
theorem dX12_sums_17 : decode cX12_sums 17 = .ok (.invokevirtual 165, 3) := by decide +kernel
theorem dX12_sums_20 : decode cX12_sums 20 = .ok (.ifCond .eq 42, 3) := by decide +kernel
theorem dX12_sums_23 : decode cX12_sums 23 = .ok (.aload_n 0, 1) := by decide +kernel
theorem dX12_sums_24 : decode cX12_sums 24 = .ok (.bipush 43, 2) := by decide +kernel
theorem dX12_sums_26 : decode cX12_sums 26 = .ok (.invokevirtual 165, 3) := by decide +kernel
theorem dX12_sums_29 : decode cX12_sums 29 = .ok (.istore_n 2, 1) := by decide +kernel
theorem dX12_sums_30 : decode cX12_sums 30 = .ok (.aload_n 0, 1) := by decide +kernel
theorem dX12_sums_31 : decode cX12_sums 31 = .ok (.dup, 1) := by decide +kernel
theorem dX12_sums_32 : decode cX12_sums 32 = .ok (.getfield 159, 3) := by decide +kernel
theorem dX12_sums_35 : decode cX12_sums 35 = .ok (.iconst 1, 1) := by decide +kernel
theorem dX12_sums_36 : decode cX12_sums 36 = .ok (.iadd, 1) := by decide +kernel
theorem dX12_sums_37 : decode cX12_sums 37 = .ok (.putfield 159, 3) := by decide +kernel
theorem dX12_sums_40 : decode cX12_sums 40 = .ok (.aload_n 0, 1) := by decide +kernel
theorem dX12_sums_41 : decode cX12_sums 41 = .ok (.iload_n 1, 1) := by decide +kernel
theorem dX12_sums_42 : decode cX12_sums 42 = .ok (.invokevirtual 260, 3) := by decide +kernel
theorem dX12_sums_45 : decode cX12_sums 45 = .ok (.aload_n 0, 1) := by decide +kernel
theorem dX12_sums_46 : decode cX12_sums 46 = .ok (.iload_n 2, 1) := by decide +kernel
theorem dX12_sums_47 : decode cX12_sums 47 = .ok (.ifCond .eq 7, 3) := by decide +kernel
theorem dX12_sums_50 : decode cX12_sums 50 = .ok (.iconst 4, 1) := by decide +kernel
theorem dX12_sums_51 : decode cX12_sums 51 = .ok (.goto 4, 3) := by decide +kernel
theorem dX12_sums_54 : decode cX12_sums 54 = .ok (.iconst 5, 1) := by decide +kernel
theorem dX12_sums_55 : decode cX12_sums 55 = .ok (.iconst 0, 1) := by decide +kernel
theorem dX12_sums_56 : decode cX12_sums 56 = .ok (.invokevirtual 247, 3) := by decide +kernel
theorem dX12_sums_59 : decode cX12_sums 59 = .ok (.goto (-54), 3) := by decide +kernel
theorem dX12_sums_62 : decode cX12_sums 62 = .ok (.return_, 1) := by decide +kernel
noncomputable def FX12_sums (self : Nat → Int32 → PP Unit) (a0 : Nat) (p1 : Int32) : PP Unit := bd (FX12_products self a0 p1) (fun (_ : Unit) => bd (it (fun (s2 : Unit) => (bd (FX12_isSign a0 (43 : Int32)) (fun x3 => jn (fun (v6 : Unit) => bd (FX12_isSign a0 (43 : Int32)) (fun x7 => lt ((b2i x7)) (fun y8 => bd (gI a0 7) (fun x9 => bd (sI a0 7 (x9 + (1 : Int32))) (fun (_ : Unit) => bd (FX12_products self a0 p1) (fun (_ : Unit) => bd (if y8 = 0 then pu (5 : Int32) else pu (4 : Int32) : PP (Int32)) (fun (v11 : Int32) => bd (FX12_emit a0 v11 (0 : Int32)) (fun (_ : Unit) => pu (Sum.inl ()))))))))) (fun j4 => if ((b2i x3)) = 0 then bd (FX12_isSign a0 (45 : Int32)) (fun x5 => if ((b2i x5)) = 0 then pu (Sum.inr ()) else j4 ()) else j4 ())) : PP ((Unit) ⊕ (Unit)))) FU ()) (fun (v13 : Unit) => pu ()))
set_option maxHeartbeats 4000000 in
set_option maxRecDepth 100000 in
theorem SX12_sums {l : Launch} {K : KK} {n : Nat} {dp : Nat} {self : Nat → Int32 → PP Unit} {hn : 270 ≤ n} (hs : ∀ (a0 : Nat) (p1 : Int32), ob a0 11 → CT l K n dp mX12_takePart [.ref (K.2.1 + a0), .int p1] enU (self a0 p1)) (a0 : Nat) (p1 : Int32) (h0 : ob a0 11) : CT l K n (dp + 3) mX12_sums [.ref (K.2.1 + a0), .int p1] enU (FX12_sums self a0 p1) := by
  refine CT.of2 (lv2 := [(0, .ref (K.2.1 + a0)), (1, .int p1)]) (by decide) rfl hn (Nat.le_of_ble_eq_true rfl) rfl (rp_id ?_)
  unfold FX12_sums
  refine rp_aload_n 0 dX12_sums_0 rfl ?_
  refine rp_iload_n 1 dX12_sums_1 rfl ?_
  refine rp_callVv [.int p1] (SX12_products (hn := hn) hs a0 p1 h0) cvX12_products (mw (i := 1515) (by decide +kernel)) (by omega) h0 (by decide) rfl rfl rfl (Nat.le_of_ble_eq_true rfl) dX12_sums_2 (fun x1 => ?_)
  refine rp_as ?_
  refine rp_join 62 (fun v13 => []) (fun _ => []) (fun v13 => ?_) (fun hX5_0 => ?_)
  · exact rp_pu (rp_vret rfl dX12_sums_62)
  refine rp_sub [0, 1] rfl (rp_it (fun (s2 : Unit) => [(0, .ref (K.2.1 + a0)), (1, .int p1)]) (fun N5 ih5 s2 => ?_) FU ())
  refine rp_aload_n 0 dX12_sums_5 rfl ?_
  refine rp_bipush (43 : Int32) dX12_sums_6 (by decide) ?_
  refine rp_callVz [.int (43 : Int32)] (SX12_isSign (hn := hn) a0 (43 : Int32) h0) cvX12_isSign (mw (i := 1523) (by decide +kernel)) (by omega) h0 (by decide) rfl rfl rfl (Nat.le_of_ble_eq_true rfl) dX12_sums_8 (fun x3 => ?_)
  refine rp_jn2 23 (fun (v6 : Unit) => [(0, .ref (K.2.1 + a0)), (1, .int p1)]) (fun v6 => []) (fun v6 => ?_) (fun hK23 => ?_)
  · refine rp_aload_n 0 dX12_sums_23 rfl ?_
    refine rp_bipush (43 : Int32) dX12_sums_24 (by decide) ?_
    refine rp_callVz [.int (43 : Int32)] (SX12_isSign (hn := hn) a0 (43 : Int32) h0) cvX12_isSign (mw (i := 1523) (by decide +kernel)) (by omega) h0 (by decide) rfl rfl rfl (Nat.le_of_ble_eq_true rfl) dX12_sums_26 (fun x7 => ?_)
    refine rp_lti (fun y8 => ?_)
    refine rp_istore_n [(2, .int y8), (0, .ref (K.2.1 + a0)), (1, .int p1)] dX12_sums_29 (by decide) rfl ?_
    refine rp_aload_n 1 dX12_sums_30 rfl ?_
    refine rp_dup dX12_sums_31 rfl ?_
    refine rp_getI fi_X12_159 h0 rfl dX12_sums_32 (fun x9 => ?_)
    refine rp_iconst (1 : Int32) dX12_sums_35 (by decide) ?_
    refine rp_iadd dX12_sums_36 ?_
    refine rp_putI fi_X12_159 fp_X12_7 h0 rfl dX12_sums_37 ?_
    refine rp_aload_n 1 dX12_sums_40 rfl ?_
    refine rp_iload_n 2 dX12_sums_41 rfl ?_
    refine rp_callVv [.int p1] (SX12_products (hn := hn) hs a0 p1 h0) cvX12_products (mw (i := 1515) (by decide +kernel)) (by omega) h0 (by decide) rfl rfl rfl (Nat.le_of_ble_eq_true rfl) dX12_sums_42 (fun x10 => ?_)
    refine rp_aload_n 1 dX12_sums_45 rfl ?_
    refine rp_iload_n 0 dX12_sums_46 rfl ?_
    refine rp_as ?_
    refine rp_join 55 (fun (v11 : Int32) => [(0, .ref (K.2.1 + a0)), (1, .int p1)]) (fun v11 => [.int v11, .ref (K.2.1 + a0)]) (fun v11 => ?_) (fun hJ55 => ?_)
    · refine rp_iconst (0 : Int32) dX12_sums_55 (by decide) ?_
      refine rp_callVv [.int v11, .int (0 : Int32)] (SX12_emit (hn := hn) a0 v11 (0 : Int32) h0) cvX12_emit (mw (i := 1527) (by decide +kernel)) (by omega) h0 (by decide) rfl rfl rfl (Nat.le_of_ble_eq_true rfl) dX12_sums_56 (fun x12 => ?_)
      refine rp_goto 5 dX12_sums_59 (by decide) ?_
      exact rp_sub [0, 1] rfl (ih5 ())
    refine rp_if_eq 54 dX12_sums_47 (by decide) ?_ ?_
    · refine rp_iconst (5 : Int32) dX12_sums_54 (by decide) ?_
      exact rp_sub [1, 2] rfl (rp_pu (hJ55 (5 : Int32)))
    · refine rp_iconst (4 : Int32) dX12_sums_50 (by decide) ?_
      refine rp_goto 55 dX12_sums_51 (by decide) ?_
      exact rp_sub [1, 2] rfl (rp_pu (hJ55 (4 : Int32)))
  refine rp_if_ne 23 dX12_sums_11 (by decide) ?_ ?_
  · exact rp_sub [0, 1] rfl (hK23 ())
  · refine rp_aload_n 0 dX12_sums_14 rfl ?_
    refine rp_bipush (45 : Int32) dX12_sums_15 (by decide) ?_
    refine rp_callVz [.int (45 : Int32)] (SX12_isSign (hn := hn) a0 (45 : Int32) h0) cvX12_isSign (mw (i := 1523) (by decide +kernel)) (by omega) h0 (by decide) rfl rfl rfl (Nat.le_of_ble_eq_true rfl) dX12_sums_17 (fun x5 => ?_)
    refine rp_if_eq 62 dX12_sums_20 (by decide) ?_ ?_
    · exact rp_sub [] rfl (rp_puR (hX5_0 ()))
    · exact rp_sub [0, 1] rfl (hK23 ())

theorem dX12_test_0 : decode cX12_test 0 = .ok (.aload_n 0, 1) := by decide +kernel
theorem dX12_test_1 : decode cX12_test 1 = .ok (.iload_n 1, 1) := by decide +kernel
theorem dX12_test_2 : decode cX12_test 2 = .ok (.invokevirtual 254, 3) := by decide +kernel
theorem dX12_test_5 : decode cX12_test 5 = .ok (.aload_n 0, 1) := by decide +kernel
theorem dX12_test_6 : decode cX12_test 6 = .ok (.bipush 60, 2) := by decide +kernel
theorem dX12_test_8 : decode cX12_test 8 = .ok (.invokevirtual 165, 3) := by decide +kernel
theorem dX12_test_11 : decode cX12_test 11 = .ok (.istore_n 2, 1) := by decide +kernel
theorem dX12_test_12 : decode cX12_test 12 = .ok (.aload_n 0, 1) := by decide +kernel
theorem dX12_test_13 : decode cX12_test 13 = .ok (.bipush 60, 2) := by decide +kernel
theorem dX12_test_15 : decode cX12_test 15 = .ok (.invokevirtual 257, 3) := by decide +kernel
theorem dX12_test_18 : decode cX12_test 18 = .ok (.ifCond .ne 12, 3) := by decide +kernel
theorem dX12_test_21 : decode cX12_test 21 = .ok (.aload_n 0, 1) := by decide +kernel
theorem dX12_test_22 : decode cX12_test 22 = .ok (.bipush 61, 2) := by decide +kernel
theorem dX12_test_24 : decode cX12_test 24 = .ok (.invokevirtual 257, 3) := by decide +kernel
theorem dX12_test_27 : decode cX12_test 27 = .ok (.ifCond .eq 24, 3) := by decide +kernel
theorem dX12_test_30 : decode cX12_test 30 = .ok (.aload_n 0, 1) := by decide +kernel
theorem dX12_test_31 : decode cX12_test 31 = .ok (.iload_n 1, 1) := by decide +kernel
theorem dX12_test_32 : decode cX12_test 32 = .ok (.invokevirtual 254, 3) := by decide +kernel
theorem dX12_test_35 : decode cX12_test 35 = .ok (.aload_n 0, 1) := by decide +kernel
theorem dX12_test_36 : decode cX12_test 36 = .ok (.iload_n 2, 1) := by decide +kernel
theorem dX12_test_37 : decode cX12_test 37 = .ok (.ifCond .eq 8, 3) := by decide +kernel
theorem dX12_test_40 : decode cX12_test 40 = .ok (.bipush 7, 2) := by decide +kernel
theorem dX12_test_42 : decode cX12_test 42 = .ok (.goto 5, 3) := by decide +kernel
theorem dX12_test_45 : decode cX12_test 45 = .ok (.bipush 8, 2) := by decide +kernel
theorem dX12_test_47 : decode cX12_test 47 = .ok (.iconst 0, 1) := by decide +kernel
theorem dX12_test_48 : decode cX12_test 48 = .ok (.invokevirtual 247, 3) := by decide +kernel
theorem dX12_test_51 : decode cX12_test 51 = .ok (.return_, 1) := by decide +kernel
noncomputable def FX12_test (self : Nat → Int32 → PP Unit) (a0 : Nat) (p1 : Int32) : PP Unit := bd (FX12_sums self a0 p1) (fun (_ : Unit) => bd (FX12_isSign a0 (60 : Int32)) (fun x2 => lt ((b2i x2)) (fun y3 => bd (FX12_hasSign a0 (60 : Int32)) (fun x4 => bd (jn (fun (v7 : Unit) => bd (FX12_sums self a0 p1) (fun (_ : Unit) => bd (if y3 = 0 then pu (8 : Int32) else pu (7 : Int32) : PP (Int32)) (fun (v9 : Int32) => bd (FX12_emit a0 v9 (0 : Int32)) (fun (_ : Unit) => pu ())))) (fun j5 => if ((b2i x4)) = 0 then bd (FX12_hasSign a0 (61 : Int32)) (fun x6 => if ((b2i x6)) = 0 then pu () else j5 ()) else j5 ()) : PP (Unit)) (fun (v11 : Unit) => pu ())))))
set_option maxHeartbeats 4000000 in
set_option maxRecDepth 100000 in
theorem SX12_test {l : Launch} {K : KK} {n : Nat} {dp : Nat} {self : Nat → Int32 → PP Unit} {hn : 270 ≤ n} (hs : ∀ (a0 : Nat) (p1 : Int32), ob a0 11 → CT l K n dp mX12_takePart [.ref (K.2.1 + a0), .int p1] enU (self a0 p1)) (a0 : Nat) (p1 : Int32) (h0 : ob a0 11) : CT l K n (dp + 4) mX12_test [.ref (K.2.1 + a0), .int p1] enU (FX12_test self a0 p1) := by
  refine CT.of2 (lv2 := [(0, .ref (K.2.1 + a0)), (1, .int p1)]) (by decide) rfl hn (Nat.le_of_ble_eq_true rfl) rfl (rp_id ?_)
  unfold FX12_test
  refine rp_aload_n 0 dX12_test_0 rfl ?_
  refine rp_iload_n 1 dX12_test_1 rfl ?_
  refine rp_callVv [.int p1] (SX12_sums (hn := hn) hs a0 p1 h0) cvX12_sums (mw (i := 1511) (by decide +kernel)) (by omega) h0 (by decide) rfl rfl rfl (Nat.le_of_ble_eq_true rfl) dX12_test_2 (fun x1 => ?_)
  refine rp_aload_n 0 dX12_test_5 rfl ?_
  refine rp_bipush (60 : Int32) dX12_test_6 (by decide) ?_
  refine rp_callVz [.int (60 : Int32)] (SX12_isSign (hn := hn) a0 (60 : Int32) h0) cvX12_isSign (mw (i := 1523) (by decide +kernel)) (by omega) h0 (by decide) rfl rfl rfl (Nat.le_of_ble_eq_true rfl) dX12_test_8 (fun x2 => ?_)
  refine rp_lti (fun y3 => ?_)
  refine rp_istore_n [(2, .int y3), (0, .ref (K.2.1 + a0)), (1, .int p1)] dX12_test_11 (by decide) rfl ?_
  refine rp_aload_n 1 dX12_test_12 rfl ?_
  refine rp_bipush (60 : Int32) dX12_test_13 (by decide) ?_
  refine rp_callVz [.int (60 : Int32)] (SX12_hasSign (hn := hn) a0 (60 : Int32) h0) cvX12_hasSign (mw (i := 1531) (by decide +kernel)) (by omega) h0 (by decide) rfl rfl rfl (Nat.le_of_ble_eq_true rfl) dX12_test_15 (fun x4 => ?_)
  refine rp_as ?_
  refine rp_join 51 (fun (v11 : Unit) => []) (fun v11 => []) (fun v11 => ?_) (fun hJ51 => ?_)
  · exact rp_pu (rp_vret rfl dX12_test_51)
  refine rp_jn2 30 (fun (v7 : Unit) => [(0, .ref (K.2.1 + a0)), (1, .int p1), (2, .int y3)]) (fun v7 => []) (fun v7 => ?_) (fun hK30 => ?_)
  · refine rp_aload_n 0 dX12_test_30 rfl ?_
    refine rp_iload_n 1 dX12_test_31 rfl ?_
    refine rp_callVv [.int p1] (SX12_sums (hn := hn) hs a0 p1 h0) cvX12_sums (mw (i := 1511) (by decide +kernel)) (by omega) h0 (by decide) rfl rfl rfl (Nat.le_of_ble_eq_true rfl) dX12_test_32 (fun x8 => ?_)
    refine rp_aload_n 0 dX12_test_35 rfl ?_
    refine rp_iload_n 2 dX12_test_36 rfl ?_
    refine rp_as ?_
    refine rp_join 47 (fun (v9 : Int32) => []) (fun v9 => [.int v9, .ref (K.2.1 + a0)]) (fun v9 => ?_) (fun hJ47 => ?_)
    · refine rp_iconst (0 : Int32) dX12_test_47 (by decide) ?_
      refine rp_callVv [.int v9, .int (0 : Int32)] (SX12_emit (hn := hn) a0 v9 (0 : Int32) h0) cvX12_emit (mw (i := 1527) (by decide +kernel)) (by omega) h0 (by decide) rfl rfl rfl (Nat.le_of_ble_eq_true rfl) dX12_test_48 (fun x10 => ?_)
      exact rp_sub [] rfl (rp_pu (hJ51 ()))
    refine rp_if_eq 45 dX12_test_37 (by decide) ?_ ?_
    · refine rp_bipush (8 : Int32) dX12_test_45 (by decide) ?_
      exact rp_sub [] rfl (rp_pu (hJ47 (8 : Int32)))
    · refine rp_bipush (7 : Int32) dX12_test_40 (by decide) ?_
      refine rp_goto 47 dX12_test_42 (by decide) ?_
      exact rp_sub [] rfl (rp_pu (hJ47 (7 : Int32)))
  refine rp_if_ne 30 dX12_test_18 (by decide) ?_ ?_
  · exact rp_sub [1, 2, 0] rfl (hK30 ())
  · refine rp_aload_n 1 dX12_test_21 rfl ?_
    refine rp_bipush (61 : Int32) dX12_test_22 (by decide) ?_
    refine rp_callVz [.int (61 : Int32)] (SX12_hasSign (hn := hn) a0 (61 : Int32) h0) cvX12_hasSign (mw (i := 1531) (by decide +kernel)) (by omega) h0 (by decide) rfl rfl rfl (Nat.le_of_ble_eq_true rfl) dX12_test_24 (fun x6 => ?_)
    refine rp_if_eq 51 dX12_test_27 (by decide) ?_ ?_
    · exact rp_sub [] rfl (rp_pu (hJ51 ()))
    · exact rp_sub [1, 2, 0] rfl (hK30 ())

theorem dX12_whole_0 : decode cX12_whole 0 = .ok (.aload_n 0, 1) := by decide +kernel
theorem dX12_whole_1 : decode cX12_whole 1 = .ok (.iload_n 1, 1) := by decide +kernel
theorem dX12_whole_2 : decode cX12_whole 2 = .ok (.invokevirtual 251, 3) := by decide +kernel
theorem dX12_whole_5 : decode cX12_whole 5 = .ok (.aload_n 0, 1) := by decide +kernel
theorem dX12_whole_6 : decode cX12_whole 6 = .ok (.bipush 17, 2) := by decide +kernel
theorem dX12_whole_8 : decode cX12_whole 8 = .ok (.invokevirtual 171, 3) := by decide +kernel
theorem dX12_whole_11 : decode cX12_whole 11 = .ok (.ifCond .ne 12, 3) := by decide +kernel
theorem dX12_whole_14 : decode cX12_whole 14 = .ok (.aload_n 0, 1) := by decide +kernel
theorem dX12_whole_15 : decode cX12_whole 15 = .ok (.bipush 18, 2) := by decide +kernel
theorem dX12_whole_17 : decode cX12_whole 17 = .ok (.invokevirtual 171, 3) := by decide +kernel
theorem dX12_whole_20 : decode cX12_whole 20 = .ok (.ifCond .eq 44, 3) := by decide +kernel
theorem dX12_whole_23 : decode cX12_whole 23 = .ok (.aload_n 0, 1) := by decide +kernel
theorem dX12_whole_24 : decode cX12_whole 24 = .ok (.bipush 17, 2) := by decide +kernel
theorem dX12_whole_26 : decode cX12_whole 26 = .ok (.invokevirtual 171, 3) := by decide +kernel
theorem dX12_whole_29 : decode cX12_whole 29 = .ok (.istore_n 2, 1) := by decide +kernel
theorem dX12_whole_30 : decode cX12_whole 30 = .ok (.aload_n 0, 1) := by decide +kernel
theorem dX12_whole_31 : decode cX12_whole 31 = .ok (.dup, 1) := by decide +kernel
theorem dX12_whole_32 : decode cX12_whole 32 = .ok (.getfield 159, 3) := by decide +kernel
theorem dX12_whole_35 : decode cX12_whole 35 = .ok (.iconst 1, 1) := by decide +kernel
theorem dX12_whole_36 : decode cX12_whole 36 = .ok (.iadd, 1) := by decide +kernel
theorem dX12_whole_37 : decode cX12_whole 37 = .ok (.putfield 159, 3) := by decide +kernel
theorem dX12_whole_40 : decode cX12_whole 40 = .ok (.aload_n 0, 1) := by decide +kernel
theorem dX12_whole_41 : decode cX12_whole 41 = .ok (.iload_n 1, 1) := by decide +kernel
theorem dX12_whole_42 : decode cX12_whole 42 = .ok (.invokevirtual 251, 3) := by decide +kernel
theorem dX12_whole_45 : decode cX12_whole 45 = .ok (.aload_n 0, 1) := by decide +kernel
theorem dX12_whole_46 : decode cX12_whole 46 = .ok (.iload_n 2, 1) := by decide +kernel
theorem dX12_whole_47 : decode cX12_whole 47 = .ok (.ifCond .eq 8, 3) := by decide +kernel
theorem dX12_whole_50 : decode cX12_whole 50 = .ok (.bipush 9, 2) := by decide +kernel
theorem dX12_whole_52 : decode cX12_whole 52 = .ok (.goto 5, 3) := by decide +kernel
theorem dX12_whole_55 : decode cX12_whole 55 = .ok (.bipush 10, 2) := by decide +kernel
theorem dX12_whole_57 : decode cX12_whole 57 = .ok (.iconst 0, 1) := by decide +kernel
theorem dX12_whole_58 : decode cX12_whole 58 = .ok (.invokevirtual 247, 3) := by decide +kernel
theorem dX12_whole_61 : decode cX12_whole 61 = .ok (.goto (-56), 3) := by decide +kernel
theorem dX12_whole_64 : decode cX12_whole 64 = .ok (.return_, 1) := by decide +kernel
noncomputable def FX12_whole (self : Nat → Int32 → PP Unit) (a0 : Nat) (p1 : Int32) : PP Unit := bd (FX12_test self a0 p1) (fun (_ : Unit) => bd (it (fun (s2 : Unit) => (bd (FX12_isWord a0 (17 : Int32)) (fun x3 => jn (fun (v6 : Unit) => bd (FX12_isWord a0 (17 : Int32)) (fun x7 => lt ((b2i x7)) (fun y8 => bd (gI a0 7) (fun x9 => bd (sI a0 7 (x9 + (1 : Int32))) (fun (_ : Unit) => bd (FX12_test self a0 p1) (fun (_ : Unit) => bd (if y8 = 0 then pu (10 : Int32) else pu (9 : Int32) : PP (Int32)) (fun (v11 : Int32) => bd (FX12_emit a0 v11 (0 : Int32)) (fun (_ : Unit) => pu (Sum.inl ()))))))))) (fun j4 => if ((b2i x3)) = 0 then bd (FX12_isWord a0 (18 : Int32)) (fun x5 => if ((b2i x5)) = 0 then pu (Sum.inr ()) else j4 ()) else j4 ())) : PP ((Unit) ⊕ (Unit)))) FU ()) (fun (v13 : Unit) => pu ()))
set_option maxHeartbeats 4000000 in
set_option maxRecDepth 100000 in
theorem SX12_whole {l : Launch} {K : KK} {n : Nat} {dp : Nat} {self : Nat → Int32 → PP Unit} {hn : 270 ≤ n} (hs : ∀ (a0 : Nat) (p1 : Int32), ob a0 11 → CT l K n dp mX12_takePart [.ref (K.2.1 + a0), .int p1] enU (self a0 p1)) (a0 : Nat) (p1 : Int32) (h0 : ob a0 11) : CT l K n (dp + 5) mX12_whole [.ref (K.2.1 + a0), .int p1] enU (FX12_whole self a0 p1) := by
  refine CT.of2 (lv2 := [(0, .ref (K.2.1 + a0)), (1, .int p1)]) (by decide) rfl hn (Nat.le_of_ble_eq_true rfl) rfl (rp_id ?_)
  unfold FX12_whole
  refine rp_aload_n 0 dX12_whole_0 rfl ?_
  refine rp_iload_n 1 dX12_whole_1 rfl ?_
  refine rp_callVv [.int p1] (SX12_test (hn := hn) hs a0 p1 h0) cvX12_test (mw (i := 1507) (by decide +kernel)) (by omega) h0 (by decide) rfl rfl rfl (Nat.le_of_ble_eq_true rfl) dX12_whole_2 (fun x1 => ?_)
  refine rp_as ?_
  refine rp_join 64 (fun v13 => []) (fun _ => []) (fun v13 => ?_) (fun hX5_0 => ?_)
  · exact rp_pu (rp_vret rfl dX12_whole_64)
  refine rp_sub [0, 1] rfl (rp_it (fun (s2 : Unit) => [(0, .ref (K.2.1 + a0)), (1, .int p1)]) (fun N5 ih5 s2 => ?_) FU ())
  refine rp_aload_n 0 dX12_whole_5 rfl ?_
  refine rp_bipush (17 : Int32) dX12_whole_6 (by decide) ?_
  refine rp_callVz [.int (17 : Int32)] (SX12_isWord (hn := hn) a0 (17 : Int32) h0) cvX12_isWord (mw (i := 1436) (by decide +kernel)) (by omega) h0 (by decide) rfl rfl rfl (Nat.le_of_ble_eq_true rfl) dX12_whole_8 (fun x3 => ?_)
  refine rp_jn2 23 (fun (v6 : Unit) => [(0, .ref (K.2.1 + a0)), (1, .int p1)]) (fun v6 => []) (fun v6 => ?_) (fun hK23 => ?_)
  · refine rp_aload_n 0 dX12_whole_23 rfl ?_
    refine rp_bipush (17 : Int32) dX12_whole_24 (by decide) ?_
    refine rp_callVz [.int (17 : Int32)] (SX12_isWord (hn := hn) a0 (17 : Int32) h0) cvX12_isWord (mw (i := 1436) (by decide +kernel)) (by omega) h0 (by decide) rfl rfl rfl (Nat.le_of_ble_eq_true rfl) dX12_whole_26 (fun x7 => ?_)
    refine rp_lti (fun y8 => ?_)
    refine rp_istore_n [(2, .int y8), (0, .ref (K.2.1 + a0)), (1, .int p1)] dX12_whole_29 (by decide) rfl ?_
    refine rp_aload_n 1 dX12_whole_30 rfl ?_
    refine rp_dup dX12_whole_31 rfl ?_
    refine rp_getI fi_X12_159 h0 rfl dX12_whole_32 (fun x9 => ?_)
    refine rp_iconst (1 : Int32) dX12_whole_35 (by decide) ?_
    refine rp_iadd dX12_whole_36 ?_
    refine rp_putI fi_X12_159 fp_X12_7 h0 rfl dX12_whole_37 ?_
    refine rp_aload_n 1 dX12_whole_40 rfl ?_
    refine rp_iload_n 2 dX12_whole_41 rfl ?_
    refine rp_callVv [.int p1] (SX12_test (hn := hn) hs a0 p1 h0) cvX12_test (mw (i := 1507) (by decide +kernel)) (by omega) h0 (by decide) rfl rfl rfl (Nat.le_of_ble_eq_true rfl) dX12_whole_42 (fun x10 => ?_)
    refine rp_aload_n 1 dX12_whole_45 rfl ?_
    refine rp_iload_n 0 dX12_whole_46 rfl ?_
    refine rp_as ?_
    refine rp_join 57 (fun (v11 : Int32) => [(0, .ref (K.2.1 + a0)), (1, .int p1)]) (fun v11 => [.int v11, .ref (K.2.1 + a0)]) (fun v11 => ?_) (fun hJ57 => ?_)
    · refine rp_iconst (0 : Int32) dX12_whole_57 (by decide) ?_
      refine rp_callVv [.int v11, .int (0 : Int32)] (SX12_emit (hn := hn) a0 v11 (0 : Int32) h0) cvX12_emit (mw (i := 1527) (by decide +kernel)) (by omega) h0 (by decide) rfl rfl rfl (Nat.le_of_ble_eq_true rfl) dX12_whole_58 (fun x12 => ?_)
      refine rp_goto 5 dX12_whole_61 (by decide) ?_
      exact rp_sub [0, 1] rfl (ih5 ())
    refine rp_if_eq 55 dX12_whole_47 (by decide) ?_ ?_
    · refine rp_bipush (10 : Int32) dX12_whole_55 (by decide) ?_
      exact rp_sub [1, 2] rfl (rp_pu (hJ57 (10 : Int32)))
    · refine rp_bipush (9 : Int32) dX12_whole_50 (by decide) ?_
      refine rp_goto 57 dX12_whole_52 (by decide) ?_
      exact rp_sub [1, 2] rfl (rp_pu (hJ57 (9 : Int32)))
  refine rp_if_ne 23 dX12_whole_11 (by decide) ?_ ?_
  · exact rp_sub [0, 1] rfl (hK23 ())
  · refine rp_aload_n 0 dX12_whole_14 rfl ?_
    refine rp_bipush (18 : Int32) dX12_whole_15 (by decide) ?_
    refine rp_callVz [.int (18 : Int32)] (SX12_isWord (hn := hn) a0 (18 : Int32) h0) cvX12_isWord (mw (i := 1436) (by decide +kernel)) (by omega) h0 (by decide) rfl rfl rfl (Nat.le_of_ble_eq_true rfl) dX12_whole_17 (fun x5 => ?_)
    refine rp_if_eq 64 dX12_whole_20 (by decide) ?_ ?_
    · exact rp_sub [] rfl (rp_puR (hX5_0 ()))
    · exact rp_sub [0, 1] rfl (hK23 ())
