theorem dX4_hanging_0 : decode cX4_hanging 0 = .ok (.iconst 0, 1) := by decide +kernel
theorem dX4_hanging_1 : decode cX4_hanging 1 = .ok (.istore_n 1, 1) := by decide +kernel
theorem dX4_hanging_2 : decode cX4_hanging 2 = .ok (.iconst 0, 1) := by decide +kernel
theorem dX4_hanging_3 : decode cX4_hanging 3 = .ok (.istore_n 2, 1) := by decide +kernel
theorem dX4_hanging_4 : decode cX4_hanging 4 = .ok (.iload_n 2, 1) := by decide +kernel
theorem dX4_hanging_5 : decode cX4_hanging 5 = .ok (.aload_n 0, 1) := by decide +kernel
theorem dX4_hanging_6 : decode cX4_hanging 6 = .ok (.getfield 24, 3) := by decide +kernel
theorem dX4_hanging_9 : decode cX4_hanging 9 = .ok (.getfield 61, 3) := by decide +kernel
theorem dX4_hanging_12 : decode cX4_hanging 12 = .ok (.if_icmp .ge 29, 3) := by decide +kernel
theorem dX4_hanging_15 : decode cX4_hanging 15 = .ok (.iload_n 1, 1) := by decide +kernel
theorem dX4_hanging_16 : decode cX4_hanging 16 = .ok (.aload_n 0, 1) := by decide +kernel
theorem dX4_hanging_17 : decode cX4_hanging 17 = .ok (.getfield 15, 3) := by decide +kernel
theorem dX4_hanging_20 : decode cX4_hanging 20 = .ok (.iload_n 2, 1) := by decide +kernel
theorem dX4_hanging_21 : decode cX4_hanging 21 = .ok (.iaload, 1) := by decide +kernel
theorem dX4_hanging_22 : decode cX4_hanging 22 = .ok (.iconst (-1), 1) := by decide +kernel
theorem dX4_hanging_23 : decode cX4_hanging 23 = .ok (.if_icmp .eq 9, 3) := by decide +kernel
theorem dX4_hanging_26 : decode cX4_hanging 26 = .ok (.iconst 1, 1) := by decide +kernel
theorem dX4_hanging_27 : decode cX4_hanging 27 = .ok (.iload_n 2, 1) := by decide +kernel
theorem dX4_hanging_28 : decode cX4_hanging 28 = .ok (.ishl, 1) := by decide +kernel
theorem dX4_hanging_29 : decode cX4_hanging 29 = .ok (.goto 4, 3) := by decide +kernel
theorem dX4_hanging_32 : decode cX4_hanging 32 = .ok (.iconst 0, 1) := by decide +kernel
theorem dX4_hanging_33 : decode cX4_hanging 33 = .ok (.ior, 1) := by decide +kernel
theorem dX4_hanging_34 : decode cX4_hanging 34 = .ok (.istore_n 1, 1) := by decide +kernel
theorem dX4_hanging_35 : decode cX4_hanging 35 = .ok (.iinc 2 1, 3) := by decide +kernel
theorem dX4_hanging_38 : decode cX4_hanging 38 = .ok (.goto (-34), 3) := by decide +kernel
theorem dX4_hanging_41 : decode cX4_hanging 41 = .ok (.iload_n 1, 1) := by decide +kernel
theorem dX4_hanging_42 : decode cX4_hanging 42 = .ok (.ireturn, 1) := by decide +kernel
noncomputable def FX4_hanging (a0 : Nat) : PP Int32 := bd (it (fun (s1 : Int32 × Int32) => (bd (gI (rf a0 0) 11) (fun x2 => if x2 ≤ s1.2 then pu (Sum.inr s1.1) else bd (aI (rf a0 2) 6 s1.2) (fun x3 => bd (if x3 = (-1 : Int32) then pu (0 : Int32) else pu ((1 : Int32) <<< (s1.2 &&& 31)) : PP (Int32)) (fun (v4 : Int32) => lt (s1.1 ||| v4) (fun y5 => lt (s1.2 + (1 : Int32)) (fun y6 => pu (Sum.inl (y5, y6))))))) : PP ((Int32 × Int32) ⊕ (Int32)))) FU ((0 : Int32), (0 : Int32))) (fun (v7 : Int32) => pu v7)
set_option maxHeartbeats 4000000 in
set_option maxRecDepth 100000 in
theorem SX4_hanging {l : Launch} {K : KK} {n : Nat} {hn : 270 ≤ n} (a0 : Nat) (h0 : ob a0 4) : CT l K n 0 mX4_hanging [.ref (K.2.1 + a0)] enI (FX4_hanging a0) := by
  refine CT.of2 (lv2 := [(0, .ref (K.2.1 + a0))]) (by decide) rfl hn (Nat.le_of_ble_eq_true rfl) rfl (rp_id ?_)
  unfold FX4_hanging
  refine rp_iconst (0 : Int32) dX4_hanging_0 (by decide) ?_
  refine rp_istore_n [(1, .int (0 : Int32)), (0, .ref (K.2.1 + a0))] dX4_hanging_1 (by decide) rfl ?_
  refine rp_iconst (0 : Int32) dX4_hanging_2 (by decide) ?_
  refine rp_istore_n [(2, .int (0 : Int32)), (1, .int (0 : Int32)), (0, .ref (K.2.1 + a0))] dX4_hanging_3 (by decide) rfl ?_
  refine rp_as ?_
  refine rp_join 41 (fun v7 => [(1, .int v7)]) (fun _ => []) (fun v7 => ?_) (fun hX4_0 => ?_)
  · refine rp_iload_n 0 dX4_hanging_41 rfl ?_
    exact rp_pu (rp_iret rfl dX4_hanging_42)
  refine rp_sub [2, 1, 0] rfl (rp_it (fun (s1 : Int32 × Int32) => [(0, .ref (K.2.1 + a0)), (1, .int s1.1), (2, .int s1.2)]) (fun N4 ih4 s1 => ?_) FU ((0 : Int32), (0 : Int32)))
  refine rp_iload_n 2 dX4_hanging_4 rfl ?_
  refine rp_aload_n 0 dX4_hanging_5 rfl ?_
  refine rp_getR fi_X4_24 h0 rfl dX4_hanging_6 ?_
  refine rp_getI fi_X4_61 (tX4_0 h0) rfl dX4_hanging_9 (fun x2 => ?_)
  refine rp_icmp_ge 41 dX4_hanging_12 (by decide) ?_ ?_
  · exact rp_sub [1] rfl (rp_puR (hX4_0 s1.1))
  · refine rp_iload_n 1 dX4_hanging_15 rfl ?_
    refine rp_aload_n 0 dX4_hanging_16 rfl ?_
    refine rp_getR fi_X4_15 h0 rfl dX4_hanging_17 ?_
    refine rp_iload_n 2 dX4_hanging_20 rfl ?_
    refine rp_iald (tX4_2 h0) dX4_hanging_21 (fun x3 => ?_)
    refine rp_iconst (-1 : Int32) dX4_hanging_22 (by decide) ?_
    refine rp_as ?_
    refine rp_join 33 (fun (v4 : Int32) => [(0, .ref (K.2.1 + a0)), (2, .int s1.2)]) (fun v4 => [.int v4, .int s1.1]) (fun v4 => ?_) (fun hJ33 => ?_)
    · refine rp_ior dX4_hanging_33 ?_
      refine rp_lti (fun y5 => ?_)
      refine rp_istore_n [(1, .int y5), (0, .ref (K.2.1 + a0)), (2, .int s1.2)] dX4_hanging_34 (by decide) rfl ?_
      refine rp_iinc (fun y6 => [(2, .int y6), (1, .int y5), (0, .ref (K.2.1 + a0))]) 2 dX4_hanging_35 rfl (by rfl) (by decide) (fun y6 => rfl) (fun y6 => ?_)
      refine rp_goto 4 dX4_hanging_38 (by decide) ?_
      exact rp_sub [2, 1, 0] rfl (ih4 (y5, y6))
    refine rp_icmp_eq 32 dX4_hanging_23 (by decide) ?_ ?_
    · refine rp_iconst (0 : Int32) dX4_hanging_32 (by decide) ?_
      exact rp_sub [0, 2] rfl (rp_pu (hJ33 (0 : Int32)))
    · refine rp_iconst (1 : Int32) dX4_hanging_26 (by decide) ?_
      refine rp_iload_n 2 dX4_hanging_27 rfl ?_
      refine rp_ishl dX4_hanging_28 ?_
      refine rp_goto 33 dX4_hanging_29 (by decide) ?_
      exact rp_sub [0, 2] rfl (rp_pu (hJ33 ((1 : Int32) <<< (s1.2 &&& 31))))

theorem dX4_wetOnes_0 : decode cX4_wetOnes 0 = .ok (.iconst 0, 1) := by decide +kernel
theorem dX4_wetOnes_1 : decode cX4_wetOnes 1 = .ok (.istore_n 1, 1) := by decide +kernel
theorem dX4_wetOnes_2 : decode cX4_wetOnes 2 = .ok (.iconst 0, 1) := by decide +kernel
theorem dX4_wetOnes_3 : decode cX4_wetOnes 3 = .ok (.istore_n 2, 1) := by decide +kernel
theorem dX4_wetOnes_4 : decode cX4_wetOnes 4 = .ok (.iload_n 2, 1) := by decide +kernel
theorem dX4_wetOnes_5 : decode cX4_wetOnes 5 = .ok (.aload_n 0, 1) := by decide +kernel
theorem dX4_wetOnes_6 : decode cX4_wetOnes 6 = .ok (.getfield 24, 3) := by decide +kernel
theorem dX4_wetOnes_9 : decode cX4_wetOnes 9 = .ok (.getfield 61, 3) := by decide +kernel
theorem dX4_wetOnes_12 : decode cX4_wetOnes 12 = .ok (.if_icmp .ge 28, 3) := by decide +kernel
theorem dX4_wetOnes_15 : decode cX4_wetOnes 15 = .ok (.iload_n 1, 1) := by decide +kernel
theorem dX4_wetOnes_16 : decode cX4_wetOnes 16 = .ok (.aload_n 0, 1) := by decide +kernel
theorem dX4_wetOnes_17 : decode cX4_wetOnes 17 = .ok (.getfield 9, 3) := by decide +kernel
theorem dX4_wetOnes_20 : decode cX4_wetOnes 20 = .ok (.iload_n 2, 1) := by decide +kernel
theorem dX4_wetOnes_21 : decode cX4_wetOnes 21 = .ok (.iaload, 1) := by decide +kernel
theorem dX4_wetOnes_22 : decode cX4_wetOnes 22 = .ok (.ifCond .le 9, 3) := by decide +kernel
theorem dX4_wetOnes_25 : decode cX4_wetOnes 25 = .ok (.iconst 1, 1) := by decide +kernel
theorem dX4_wetOnes_26 : decode cX4_wetOnes 26 = .ok (.iload_n 2, 1) := by decide +kernel
theorem dX4_wetOnes_27 : decode cX4_wetOnes 27 = .ok (.ishl, 1) := by decide +kernel
theorem dX4_wetOnes_28 : decode cX4_wetOnes 28 = .ok (.goto 4, 3) := by decide +kernel
theorem dX4_wetOnes_31 : decode cX4_wetOnes 31 = .ok (.iconst 0, 1) := by decide +kernel
theorem dX4_wetOnes_32 : decode cX4_wetOnes 32 = .ok (.ior, 1) := by decide +kernel
theorem dX4_wetOnes_33 : decode cX4_wetOnes 33 = .ok (.istore_n 1, 1) := by decide +kernel
theorem dX4_wetOnes_34 : decode cX4_wetOnes 34 = .ok (.iinc 2 1, 3) := by decide +kernel
theorem dX4_wetOnes_37 : decode cX4_wetOnes 37 = .ok (.goto (-33), 3) := by decide +kernel
theorem dX4_wetOnes_40 : decode cX4_wetOnes 40 = .ok (.iload_n 1, 1) := by decide +kernel
theorem dX4_wetOnes_41 : decode cX4_wetOnes 41 = .ok (.ireturn, 1) := by decide +kernel
noncomputable def FX4_wetOnes (a0 : Nat) : PP Int32 := bd (it (fun (s1 : Int32 × Int32) => (bd (gI (rf a0 0) 11) (fun x2 => if x2 ≤ s1.2 then pu (Sum.inr s1.1) else bd (aI (rf a0 1) 6 s1.2) (fun x3 => bd (if x3 ≤ 0 then pu (0 : Int32) else pu ((1 : Int32) <<< (s1.2 &&& 31)) : PP (Int32)) (fun (v4 : Int32) => lt (s1.1 ||| v4) (fun y5 => lt (s1.2 + (1 : Int32)) (fun y6 => pu (Sum.inl (y5, y6))))))) : PP ((Int32 × Int32) ⊕ (Int32)))) FU ((0 : Int32), (0 : Int32))) (fun (v7 : Int32) => pu v7)
set_option maxHeartbeats 4000000 in
set_option maxRecDepth 100000 in
theorem SX4_wetOnes {l : Launch} {K : KK} {n : Nat} {hn : 270 ≤ n} (a0 : Nat) (h0 : ob a0 4) : CT l K n 0 mX4_wetOnes [.ref (K.2.1 + a0)] enI (FX4_wetOnes a0) := by
  refine CT.of2 (lv2 := [(0, .ref (K.2.1 + a0))]) (by decide) rfl hn (Nat.le_of_ble_eq_true rfl) rfl (rp_id ?_)
  unfold FX4_wetOnes
  refine rp_iconst (0 : Int32) dX4_wetOnes_0 (by decide) ?_
  refine rp_istore_n [(1, .int (0 : Int32)), (0, .ref (K.2.1 + a0))] dX4_wetOnes_1 (by decide) rfl ?_
  refine rp_iconst (0 : Int32) dX4_wetOnes_2 (by decide) ?_
  refine rp_istore_n [(2, .int (0 : Int32)), (1, .int (0 : Int32)), (0, .ref (K.2.1 + a0))] dX4_wetOnes_3 (by decide) rfl ?_
  refine rp_as ?_
  refine rp_join 40 (fun v7 => [(1, .int v7)]) (fun _ => []) (fun v7 => ?_) (fun hX4_0 => ?_)
  · refine rp_iload_n 0 dX4_wetOnes_40 rfl ?_
    exact rp_pu (rp_iret rfl dX4_wetOnes_41)
  refine rp_sub [2, 1, 0] rfl (rp_it (fun (s1 : Int32 × Int32) => [(0, .ref (K.2.1 + a0)), (1, .int s1.1), (2, .int s1.2)]) (fun N4 ih4 s1 => ?_) FU ((0 : Int32), (0 : Int32)))
  refine rp_iload_n 2 dX4_wetOnes_4 rfl ?_
  refine rp_aload_n 0 dX4_wetOnes_5 rfl ?_
  refine rp_getR fi_X4_24 h0 rfl dX4_wetOnes_6 ?_
  refine rp_getI fi_X4_61 (tX4_0 h0) rfl dX4_wetOnes_9 (fun x2 => ?_)
  refine rp_icmp_ge 40 dX4_wetOnes_12 (by decide) ?_ ?_
  · exact rp_sub [1] rfl (rp_puR (hX4_0 s1.1))
  · refine rp_iload_n 1 dX4_wetOnes_15 rfl ?_
    refine rp_aload_n 0 dX4_wetOnes_16 rfl ?_
    refine rp_getR fi_X4_9 h0 rfl dX4_wetOnes_17 ?_
    refine rp_iload_n 2 dX4_wetOnes_20 rfl ?_
    refine rp_iald (tX4_1 h0) dX4_wetOnes_21 (fun x3 => ?_)
    refine rp_as ?_
    refine rp_join 32 (fun (v4 : Int32) => [(0, .ref (K.2.1 + a0)), (2, .int s1.2)]) (fun v4 => [.int v4, .int s1.1]) (fun v4 => ?_) (fun hJ32 => ?_)
    · refine rp_ior dX4_wetOnes_32 ?_
      refine rp_lti (fun y5 => ?_)
      refine rp_istore_n [(1, .int y5), (0, .ref (K.2.1 + a0)), (2, .int s1.2)] dX4_wetOnes_33 (by decide) rfl ?_
      refine rp_iinc (fun y6 => [(2, .int y6), (1, .int y5), (0, .ref (K.2.1 + a0))]) 2 dX4_wetOnes_34 rfl (by rfl) (by decide) (fun y6 => rfl) (fun y6 => ?_)
      refine rp_goto 4 dX4_wetOnes_37 (by decide) ?_
      exact rp_sub [2, 1, 0] rfl (ih4 (y5, y6))
    refine rp_if_le 31 dX4_wetOnes_22 (by decide) ?_ ?_
    · refine rp_iconst (0 : Int32) dX4_wetOnes_31 (by decide) ?_
      exact rp_sub [0, 2] rfl (rp_pu (hJ32 (0 : Int32)))
    · refine rp_iconst (1 : Int32) dX4_wetOnes_25 (by decide) ?_
      refine rp_iload_n 2 dX4_wetOnes_26 rfl ?_
      refine rp_ishl dX4_wetOnes_27 ?_
      refine rp_goto 32 dX4_wetOnes_28 (by decide) ?_
      exact rp_sub [0, 2] rfl (rp_pu (hJ32 ((1 : Int32) <<< (s1.2 &&& 31))))

theorem dX4_countKinds_0 : decode cX4_countKinds 0 = .ok (.iconst 0, 1) := by decide +kernel
theorem dX4_countKinds_1 : decode cX4_countKinds 1 = .ok (.istore_n 3, 1) := by decide +kernel
theorem dX4_countKinds_2 : decode cX4_countKinds 2 = .ok (.iload_n 3, 1) := by decide +kernel
theorem dX4_countKinds_3 : decode cX4_countKinds 3 = .ok (.iconst 4, 1) := by decide +kernel
theorem dX4_countKinds_4 : decode cX4_countKinds 4 = .ok (.if_icmp .ge 16, 3) := by decide +kernel
theorem dX4_countKinds_7 : decode cX4_countKinds 7 = .ok (.aload_n 0, 1) := by decide +kernel
theorem dX4_countKinds_8 : decode cX4_countKinds 8 = .ok (.getfield 21, 3) := by decide +kernel
theorem dX4_countKinds_11 : decode cX4_countKinds 11 = .ok (.iload_n 3, 1) := by decide +kernel
theorem dX4_countKinds_12 : decode cX4_countKinds 12 = .ok (.iconst 0, 1) := by decide +kernel
theorem dX4_countKinds_13 : decode cX4_countKinds 13 = .ok (.iastore, 1) := by decide +kernel
theorem dX4_countKinds_14 : decode cX4_countKinds 14 = .ok (.iinc 3 1, 3) := by decide +kernel
theorem dX4_countKinds_17 : decode cX4_countKinds 17 = .ok (.goto (-15), 3) := by decide +kernel
theorem dX4_countKinds_20 : decode cX4_countKinds 20 = .ok (.aload_n 0, 1) := by decide +kernel
theorem dX4_countKinds_21 : decode cX4_countKinds 21 = .ok (.getfield 24, 3) := by decide +kernel
theorem dX4_countKinds_24 : decode cX4_countKinds 24 = .ok (.getfield 96, 3) := by decide +kernel
theorem dX4_countKinds_27 : decode cX4_countKinds 27 = .ok (.iload_n 1, 1) := by decide +kernel
theorem dX4_countKinds_28 : decode cX4_countKinds 28 = .ok (.iaload, 1) := by decide +kernel
theorem dX4_countKinds_29 : decode cX4_countKinds 29 = .ok (.istore_n 3, 1) := by decide +kernel
theorem dX4_countKinds_30 : decode cX4_countKinds 30 = .ok (.iconst 0, 1) := by decide +kernel
theorem dX4_countKinds_31 : decode cX4_countKinds 31 = .ok (.istore 4, 2) := by decide +kernel
theorem dX4_countKinds_33 : decode cX4_countKinds 33 = .ok (.iload 4, 2) := by decide +kernel
theorem dX4_countKinds_35 : decode cX4_countKinds 35 = .ok (.aload_n 0, 1) := by decide +kernel
theorem dX4_countKinds_36 : decode cX4_countKinds 36 = .ok (.getfield 24, 3) := by decide +kernel
theorem dX4_countKinds_39 : decode cX4_countKinds 39 = .ok (.getfield 61, 3) := by decide +kernel
theorem dX4_countKinds_42 : decode cX4_countKinds 42 = .ok (.if_icmp .ge 85, 3) := by decide +kernel
theorem dX4_countKinds_45 : decode cX4_countKinds 45 = .ok (.aload_n 0, 1) := by decide +kernel
theorem dX4_countKinds_46 : decode cX4_countKinds 46 = .ok (.getfield 15, 3) := by decide +kernel
theorem dX4_countKinds_49 : decode cX4_countKinds 49 = .ok (.iload 4, 2) := by decide +kernel
theorem dX4_countKinds_51 : decode cX4_countKinds 51 = .ok (.iaload, 1) := by decide +kernel
theorem dX4_countKinds_52 : decode cX4_countKinds 52 = .ok (.iconst (-1), 1) := by decide +kernel
theorem dX4_countKinds_53 : decode cX4_countKinds 53 = .ok (.if_icmp .eq 22, 3) := by decide +kernel
theorem dX4_countKinds_56 : decode cX4_countKinds 56 = .ok (.iload_n 3, 1) := by decide +kernel
theorem dX4_countKinds_57 : decode cX4_countKinds 57 = .ok (.aload_n 0, 1) := by decide +kernel
theorem dX4_countKinds_58 : decode cX4_countKinds 58 = .ok (.getfield 15, 3) := by decide +kernel
theorem dX4_countKinds_61 : decode cX4_countKinds 61 = .ok (.iload 4, 2) := by decide +kernel
theorem dX4_countKinds_63 : decode cX4_countKinds 63 = .ok (.iaload, 1) := by decide +kernel
theorem dX4_countKinds_64 : decode cX4_countKinds 64 = .ok (.ishr, 1) := by decide +kernel
theorem dX4_countKinds_65 : decode cX4_countKinds 65 = .ok (.iconst 1, 1) := by decide +kernel
theorem dX4_countKinds_66 : decode cX4_countKinds 66 = .ok (.iand, 1) := by decide +kernel
theorem dX4_countKinds_67 : decode cX4_countKinds 67 = .ok (.iconst 1, 1) := by decide +kernel
theorem dX4_countKinds_68 : decode cX4_countKinds 68 = .ok (.if_icmp .ne 7, 3) := by decide +kernel
theorem dX4_countKinds_71 : decode cX4_countKinds 71 = .ok (.iconst 1, 1) := by decide +kernel
theorem dX4_countKinds_72 : decode cX4_countKinds 72 = .ok (.goto 4, 3) := by decide +kernel
theorem dX4_countKinds_75 : decode cX4_countKinds 75 = .ok (.iconst 0, 1) := by decide +kernel
theorem dX4_countKinds_76 : decode cX4_countKinds 76 = .ok (.istore 5, 2) := by decide +kernel
theorem dX4_countKinds_78 : decode cX4_countKinds 78 = .ok (.iload 5, 2) := by decide +kernel
theorem dX4_countKinds_80 : decode cX4_countKinds 80 = .ok (.ifCond .eq 41, 3) := by decide +kernel
theorem dX4_countKinds_83 : decode cX4_countKinds 83 = .ok (.aload_n 0, 1) := by decide +kernel
theorem dX4_countKinds_84 : decode cX4_countKinds 84 = .ok (.getfield 9, 3) := by decide +kernel
theorem dX4_countKinds_87 : decode cX4_countKinds 87 = .ok (.iload 4, 2) := by decide +kernel
theorem dX4_countKinds_89 : decode cX4_countKinds 89 = .ok (.iaload, 1) := by decide +kernel
theorem dX4_countKinds_90 : decode cX4_countKinds 90 = .ok (.ifCond .le 31, 3) := by decide +kernel
theorem dX4_countKinds_93 : decode cX4_countKinds 93 = .ok (.iload_n 2, 1) := by decide +kernel
theorem dX4_countKinds_94 : decode cX4_countKinds 94 = .ok (.iload 4, 2) := by decide +kernel
theorem dX4_countKinds_96 : decode cX4_countKinds 96 = .ok (.ishr, 1) := by decide +kernel
theorem dX4_countKinds_97 : decode cX4_countKinds 97 = .ok (.iconst 1, 1) := by decide +kernel
theorem dX4_countKinds_98 : decode cX4_countKinds 98 = .ok (.iand, 1) := by decide +kernel
theorem dX4_countKinds_99 : decode cX4_countKinds 99 = .ok (.ifCond .ne 22, 3) := by decide +kernel
theorem dX4_countKinds_102 : decode cX4_countKinds 102 = .ok (.aload_n 0, 1) := by decide +kernel
theorem dX4_countKinds_103 : decode cX4_countKinds 103 = .ok (.getfield 21, 3) := by decide +kernel
theorem dX4_countKinds_106 : decode cX4_countKinds 106 = .ok (.aload_n 0, 1) := by decide +kernel
theorem dX4_countKinds_107 : decode cX4_countKinds 107 = .ok (.getfield 24, 3) := by decide +kernel
theorem dX4_countKinds_110 : decode cX4_countKinds 110 = .ok (.getfield 80, 3) := by decide +kernel
theorem dX4_countKinds_113 : decode cX4_countKinds 113 = .ok (.iload 4, 2) := by decide +kernel
theorem dX4_countKinds_115 : decode cX4_countKinds 115 = .ok (.iaload, 1) := by decide +kernel
theorem dX4_countKinds_116 : decode cX4_countKinds 116 = .ok (.dup2, 1) := by decide +kernel
theorem dX4_countKinds_117 : decode cX4_countKinds 117 = .ok (.iaload, 1) := by decide +kernel
theorem dX4_countKinds_118 : decode cX4_countKinds 118 = .ok (.iconst 1, 1) := by decide +kernel
theorem dX4_countKinds_119 : decode cX4_countKinds 119 = .ok (.iadd, 1) := by decide +kernel
theorem dX4_countKinds_120 : decode cX4_countKinds 120 = .ok (.iastore, 1) := by decide +kernel
theorem dX4_countKinds_121 : decode cX4_countKinds 121 = .ok (.iinc 4 1, 3) := by decide +kernel
theorem dX4_countKinds_124 : decode cX4_countKinds 124 = .ok (.goto (-91), 3) := by decide +kernel
theorem dX4_countKinds_127 : decode cX4_countKinds 127 = .ok (.return_, 1) := by decide +kernel
noncomputable def FX4_countKinds (a0 : Nat) (p1 : Int32) (p2 : Int32) : PP Unit := bd (it (fun (s1 : Int32) => (if (4 : Int32) ≤ s1 then pu (Sum.inr ()) else bd (uI (rf a0 4) 4 s1 (0 : Int32)) (fun (_ : Unit) => lt (s1 + (1 : Int32)) (fun y2 => pu (Sum.inl y2))) : PP ((Int32) ⊕ (Unit)))) FU (0 : Int32)) (fun (v3 : Unit) => bd (aI (rf (rf a0 0) 5) 4 p1) (fun x4 => bd (it (fun (s5 : Int32) => (bd (gI (rf a0 0) 11) (fun x6 => if x6 ≤ s5 then pu (Sum.inr ()) else bd (aI (rf a0 2) 6 s5) (fun x7 => bd (if x7 = (-1 : Int32) then pu (0 : Int32) else bd (aI (rf a0 2) 6 s5) (fun x8 => if ((x4 >>> (x8 &&& 31)) &&& (1 : Int32)) = (1 : Int32) then pu (1 : Int32) else pu (0 : Int32)) : PP (Int32)) (fun (v9 : Int32) => bd (if v9 = 0 then pu () else bd (aI (rf a0 1) 6 s5) (fun x10 => if x10 ≤ 0 then pu () else if ((p2 >>> (s5 &&& 31)) &&& (1 : Int32)) = 0 then bd (aI (rf (rf a0 0) 6) 6 s5) (fun x11 => bd (aI (rf a0 4) 4 x11) (fun x12 => bd (uI (rf a0 4) 4 x11 (x12 + (1 : Int32))) (fun (_ : Unit) => pu ()))) else pu ()) : PP (Unit)) (fun (v13 : Unit) => lt (s5 + (1 : Int32)) (fun y14 => pu (Sum.inl y14)))))) : PP ((Int32) ⊕ (Unit)))) FU (0 : Int32)) (fun (v15 : Unit) => pu ())))
set_option maxHeartbeats 4000000 in
set_option maxRecDepth 100000 in
theorem SX4_countKinds {l : Launch} {K : KK} {n : Nat} {hn : 270 ≤ n} (a0 : Nat) (p1 : Int32) (p2 : Int32) (h0 : ob a0 4) : CT l K n 0 mX4_countKinds [.ref (K.2.1 + a0), .int p1, .int p2] enU (FX4_countKinds a0 p1 p2) := by
  refine CT.of2 (lv2 := [(0, .ref (K.2.1 + a0)), (1, .int p1), (2, .int p2)]) (by decide) rfl hn (Nat.le_of_ble_eq_true rfl) rfl (rp_id ?_)
  unfold FX4_countKinds
  refine rp_iconst (0 : Int32) dX4_countKinds_0 (by decide) ?_
  refine rp_istore_n [(3, .int (0 : Int32)), (0, .ref (K.2.1 + a0)), (1, .int p1), (2, .int p2)] dX4_countKinds_1 (by decide) rfl ?_
  refine rp_as ?_
  refine rp_join 20 (fun v3 => [(0, .ref (K.2.1 + a0)), (1, .int p1), (2, .int p2)]) (fun _ => []) (fun v3 => ?_) (fun hX2_0 => ?_)
  · refine rp_aload_n 0 dX4_countKinds_20 rfl ?_
    refine rp_getR fi_X4_24 h0 rfl dX4_countKinds_21 ?_
    refine rp_getR fi_X4_96 (tX4_0 h0) rfl dX4_countKinds_24 ?_
    refine rp_iload_n 1 dX4_countKinds_27 rfl ?_
    refine rp_iald (tX7_5 (tX4_0 h0)) dX4_countKinds_28 (fun x4 => ?_)
    refine rp_istore_n [(3, .int x4), (0, .ref (K.2.1 + a0)), (1, .int p1), (2, .int p2)] dX4_countKinds_29 (by decide) rfl ?_
    refine rp_iconst (0 : Int32) dX4_countKinds_30 (by decide) ?_
    refine rp_istore [(4, .int (0 : Int32)), (3, .int x4), (0, .ref (K.2.1 + a0)), (1, .int p1), (2, .int p2)] dX4_countKinds_31 (by decide) rfl ?_
    refine rp_as ?_
    refine rp_join 127 (fun v15 => []) (fun _ => []) (fun v15 => ?_) (fun hX33_0 => ?_)
    · exact rp_pu (rp_vret rfl dX4_countKinds_127)
    refine rp_sub [2, 4, 1, 0] rfl (rp_it (fun (s5 : Int32) => [(0, .ref (K.2.1 + a0)), (2, .int p2), (3, .int x4), (4, .int s5)]) (fun N33 ih33 s5 => ?_) FU (0 : Int32))
    refine rp_iload 3 dX4_countKinds_33 rfl ?_
    refine rp_aload_n 0 dX4_countKinds_35 rfl ?_
    refine rp_getR fi_X4_24 h0 rfl dX4_countKinds_36 ?_
    refine rp_getI fi_X4_61 (tX4_0 h0) rfl dX4_countKinds_39 (fun x6 => ?_)
    refine rp_icmp_ge 127 dX4_countKinds_42 (by decide) ?_ ?_
    · exact rp_sub [] rfl (rp_puR (hX33_0 ()))
    · refine rp_aload_n 0 dX4_countKinds_45 rfl ?_
      refine rp_getR fi_X4_15 h0 rfl dX4_countKinds_46 ?_
      refine rp_iload 3 dX4_countKinds_49 rfl ?_
      refine rp_iald (tX4_2 h0) dX4_countKinds_51 (fun x7 => ?_)
      refine rp_iconst (-1 : Int32) dX4_countKinds_52 (by decide) ?_
      refine rp_as ?_
      refine rp_join 76 (fun (v9 : Int32) => [(0, .ref (K.2.1 + a0)), (2, .int p2), (3, .int x4), (4, .int s5)]) (fun v9 => [.int v9]) (fun v9 => ?_) (fun hJ76 => ?_)
      · refine rp_istore [(5, .int v9), (0, .ref (K.2.1 + a0)), (2, .int p2), (3, .int x4), (4, .int s5)] dX4_countKinds_76 (by decide) rfl ?_
        refine rp_iload 0 dX4_countKinds_78 rfl ?_
        refine rp_as ?_
        refine rp_join 121 (fun (v13 : Unit) => [(0, .ref (K.2.1 + a0)), (2, .int p2), (3, .int x4), (4, .int s5)]) (fun v13 => []) (fun v13 => ?_) (fun hJ121 => ?_)
        · refine rp_iinc (fun y14 => [(4, .int y14), (0, .ref (K.2.1 + a0)), (2, .int p2), (3, .int x4)]) 3 dX4_countKinds_121 rfl (by rfl) (by decide) (fun y14 => rfl) (fun y14 => ?_)
          refine rp_goto 33 dX4_countKinds_124 (by decide) ?_
          exact rp_sub [1, 2, 3, 0] rfl (ih33 y14)
        refine rp_if_eq 121 dX4_countKinds_80 (by decide) ?_ ?_
        · exact rp_sub [1, 2, 3, 4] rfl (rp_pu (hJ121 ()))
        · refine rp_aload_n 1 dX4_countKinds_83 rfl ?_
          refine rp_getR fi_X4_9 h0 rfl dX4_countKinds_84 ?_
          refine rp_iload 4 dX4_countKinds_87 rfl ?_
          refine rp_iald (tX4_1 h0) dX4_countKinds_89 (fun x10 => ?_)
          refine rp_if_le 121 dX4_countKinds_90 (by decide) ?_ ?_
          · exact rp_sub [1, 2, 3, 4] rfl (rp_pu (hJ121 ()))
          · refine rp_iload_n 2 dX4_countKinds_93 rfl ?_
            refine rp_iload 4 dX4_countKinds_94 rfl ?_
            refine rp_ishr dX4_countKinds_96 ?_
            refine rp_iconst (1 : Int32) dX4_countKinds_97 (by decide) ?_
            refine rp_iand dX4_countKinds_98 ?_
            refine rp_if_ne 121 dX4_countKinds_99 (by decide) ?_ ?_
            · exact rp_sub [1, 2, 3, 4] rfl (rp_pu (hJ121 ()))
            · refine rp_aload_n 1 dX4_countKinds_102 rfl ?_
              refine rp_getR fi_X4_21 h0 rfl dX4_countKinds_103 ?_
              refine rp_aload_n 1 dX4_countKinds_106 rfl ?_
              refine rp_getR fi_X4_24 h0 rfl dX4_countKinds_107 ?_
              refine rp_getR fi_X4_80 (tX4_0 h0) rfl dX4_countKinds_110 ?_
              refine rp_iload 4 dX4_countKinds_113 rfl ?_
              refine rp_iald (tX7_6 (tX4_0 h0)) dX4_countKinds_115 (fun x11 => ?_)
              refine rp_dup2 dX4_countKinds_116 rfl rfl ?_
              refine rp_iald (tX4_4 h0) dX4_countKinds_117 (fun x12 => ?_)
              refine rp_iconst (1 : Int32) dX4_countKinds_118 (by decide) ?_
              refine rp_iadd dX4_countKinds_119 ?_
              refine rp_iast (tX4_4 h0) dX4_countKinds_120 ?_
              exact rp_sub [1, 2, 3, 4] rfl (rp_pu (hJ121 ()))
      refine rp_icmp_eq 75 dX4_countKinds_53 (by decide) ?_ ?_
      · refine rp_iconst (0 : Int32) dX4_countKinds_75 (by decide) ?_
        exact rp_sub [0, 1, 2, 3] rfl (rp_pu (hJ76 (0 : Int32)))
      · refine rp_iload_n 2 dX4_countKinds_56 rfl ?_
        refine rp_aload_n 0 dX4_countKinds_57 rfl ?_
        refine rp_getR fi_X4_15 h0 rfl dX4_countKinds_58 ?_
        refine rp_iload 3 dX4_countKinds_61 rfl ?_
        refine rp_iald (tX4_2 h0) dX4_countKinds_63 (fun x8 => ?_)
        refine rp_ishr dX4_countKinds_64 ?_
        refine rp_iconst (1 : Int32) dX4_countKinds_65 (by decide) ?_
        refine rp_iand dX4_countKinds_66 ?_
        refine rp_iconst (1 : Int32) dX4_countKinds_67 (by decide) ?_
        refine rp_icmp_ne 75 dX4_countKinds_68 (by decide) ?_ ?_
        · refine rp_iconst (0 : Int32) dX4_countKinds_75 (by decide) ?_
          exact rp_sub [0, 1, 2, 3] rfl (rp_pu (hJ76 (0 : Int32)))
        · refine rp_iconst (1 : Int32) dX4_countKinds_71 (by decide) ?_
          refine rp_goto 76 dX4_countKinds_72 (by decide) ?_
          exact rp_sub [0, 1, 2, 3] rfl (rp_pu (hJ76 (1 : Int32)))
  refine rp_sub [1, 2, 3, 0] rfl (rp_it (fun (s1 : Int32) => [(0, .ref (K.2.1 + a0)), (1, .int p1), (2, .int p2), (3, .int s1)]) (fun N2 ih2 s1 => ?_) FU (0 : Int32))
  refine rp_iload_n 3 dX4_countKinds_2 rfl ?_
  refine rp_iconst (4 : Int32) dX4_countKinds_3 (by decide) ?_
  refine rp_icmp_ge 20 dX4_countKinds_4 (by decide) ?_ ?_
  · exact rp_sub [0, 1, 2] rfl (rp_puR (hX2_0 ()))
  · refine rp_aload_n 0 dX4_countKinds_7 rfl ?_
    refine rp_getR fi_X4_21 h0 rfl dX4_countKinds_8 ?_
    refine rp_iload_n 3 dX4_countKinds_11 rfl ?_
    refine rp_iconst (0 : Int32) dX4_countKinds_12 (by decide) ?_
    refine rp_iast (tX4_4 h0) dX4_countKinds_13 ?_
    refine rp_iinc (fun y2 => [(3, .int y2), (0, .ref (K.2.1 + a0)), (1, .int p1), (2, .int p2)]) 3 dX4_countKinds_14 rfl (by rfl) (by decide) (fun y2 => rfl) (fun y2 => ?_)
    refine rp_goto 2 dX4_countKinds_17 (by decide) ?_
    exact rp_sub [1, 2, 3, 0] rfl (ih2 y2)

theorem dX4_weather_0 : decode cX4_weather 0 = .ok (.aload_n 0, 1) := by decide +kernel
theorem dX4_weather_1 : decode cX4_weather 1 = .ok (.iload_n 1, 1) := by decide +kernel
theorem dX4_weather_2 : decode cX4_weather 2 = .ok (.iload_n 2, 1) := by decide +kernel
theorem dX4_weather_3 : decode cX4_weather 3 = .ok (.invokevirtual 89, 3) := by decide +kernel
theorem dX4_weather_6 : decode cX4_weather 6 = .ok (.iconst (-1), 1) := by decide +kernel
theorem dX4_weather_7 : decode cX4_weather 7 = .ok (.istore_n 3, 1) := by decide +kernel
theorem dX4_weather_8 : decode cX4_weather 8 = .ok (.iconst 0, 1) := by decide +kernel
theorem dX4_weather_9 : decode cX4_weather 9 = .ok (.istore 4, 2) := by decide +kernel
theorem dX4_weather_11 : decode cX4_weather 11 = .ok (.iconst 0, 1) := by decide +kernel
theorem dX4_weather_12 : decode cX4_weather 12 = .ok (.istore 5, 2) := by decide +kernel
theorem dX4_weather_14 : decode cX4_weather 14 = .ok (.iload 5, 2) := by decide +kernel
theorem dX4_weather_16 : decode cX4_weather 16 = .ok (.iconst 4, 1) := by decide +kernel
theorem dX4_weather_17 : decode cX4_weather 17 = .ok (.if_icmp .ge 40, 3) := by decide +kernel
theorem dX4_weather_20 : decode cX4_weather 20 = .ok (.aload_n 0, 1) := by decide +kernel
theorem dX4_weather_21 : decode cX4_weather 21 = .ok (.getfield 21, 3) := by decide +kernel
theorem dX4_weather_24 : decode cX4_weather 24 = .ok (.getstatic 93, 3) := by decide +kernel
theorem dX4_weather_27 : decode cX4_weather 27 = .ok (.iload 5, 2) := by decide +kernel
theorem dX4_weather_29 : decode cX4_weather 29 = .ok (.iaload, 1) := by decide +kernel
theorem dX4_weather_30 : decode cX4_weather 30 = .ok (.iaload, 1) := by decide +kernel
theorem dX4_weather_31 : decode cX4_weather 31 = .ok (.iload 4, 2) := by decide +kernel
theorem dX4_weather_33 : decode cX4_weather 33 = .ok (.if_icmp .le 18, 3) := by decide +kernel
theorem dX4_weather_36 : decode cX4_weather 36 = .ok (.getstatic 93, 3) := by decide +kernel
theorem dX4_weather_39 : decode cX4_weather 39 = .ok (.iload 5, 2) := by decide +kernel
theorem dX4_weather_41 : decode cX4_weather 41 = .ok (.iaload, 1) := by decide +kernel
theorem dX4_weather_42 : decode cX4_weather 42 = .ok (.istore_n 3, 1) := by decide +kernel
theorem dX4_weather_43 : decode cX4_weather 43 = .ok (.aload_n 0, 1) := by decide +kernel
theorem dX4_weather_44 : decode cX4_weather 44 = .ok (.getfield 21, 3) := by decide +kernel
theorem dX4_weather_47 : decode cX4_weather 47 = .ok (.iload_n 3, 1) := by decide +kernel
theorem dX4_weather_48 : decode cX4_weather 48 = .ok (.iaload, 1) := by decide +kernel
theorem dX4_weather_49 : decode cX4_weather 49 = .ok (.istore 4, 2) := by decide +kernel
theorem dX4_weather_51 : decode cX4_weather 51 = .ok (.iinc 5 1, 3) := by decide +kernel
theorem dX4_weather_54 : decode cX4_weather 54 = .ok (.goto (-40), 3) := by decide +kernel
theorem dX4_weather_57 : decode cX4_weather 57 = .ok (.iload_n 3, 1) := by decide +kernel
theorem dX4_weather_58 : decode cX4_weather 58 = .ok (.ireturn, 1) := by decide +kernel
noncomputable def FX4_weather (a0 : Nat) (p1 : Int32) (p2 : Int32) : PP Int32 := bd (FX4_countKinds a0 p1 p2) (fun (_ : Unit) => bd (it (fun (s2 : Int32 × Int32 × Int32) => (if (4 : Int32) ≤ s2.2.2 then pu (Sum.inr s2.1) else bd (aR s2.2.2) (fun x3 => bd (aI (rf a0 4) 4 x3) (fun x4 => bd (if x4 ≤ s2.2.1 then pu (s2.1, s2.2.1) else bd (aR s2.2.2) (fun x5 => bd (aI (rf a0 4) 4 x5) (fun x6 => pu (x5, x6))) : PP (Int32 × Int32)) (fun (v7 : Int32 × Int32) => lt (s2.2.2 + (1 : Int32)) (fun y8 => pu (Sum.inl (v7.1, v7.2, y8)))))) : PP ((Int32 × Int32 × Int32) ⊕ (Int32)))) FU ((-1 : Int32), (0 : Int32), (0 : Int32))) (fun (v9 : Int32) => pu v9))
set_option maxHeartbeats 4000000 in
set_option maxRecDepth 100000 in
theorem SX4_weather {l : Launch} {K : KK} {n : Nat} {hn : 270 ≤ n} (a0 : Nat) (p1 : Int32) (p2 : Int32) (h0 : ob a0 4) : CT l K n 1 mX4_weather [.ref (K.2.1 + a0), .int p1, .int p2] enI (FX4_weather a0 p1 p2) := by
  refine CT.of2 (lv2 := [(0, .ref (K.2.1 + a0)), (1, .int p1), (2, .int p2)]) (by decide) rfl hn (Nat.le_of_ble_eq_true rfl) rfl (rp_id ?_)
  unfold FX4_weather
  refine rp_aload_n 0 dX4_weather_0 rfl ?_
  refine rp_iload_n 1 dX4_weather_1 rfl ?_
  refine rp_iload_n 2 dX4_weather_2 rfl ?_
  refine rp_callVv [.int p1, .int p2] (SX4_countKinds (hn := hn) a0 p1 p2 h0) cvX4_countKinds (mw (i := 812) (by decide +kernel)) (by omega) h0 (by decide) rfl rfl rfl (Nat.le_of_ble_eq_true rfl) dX4_weather_3 (fun x1 => ?_)
  refine rp_iconst (-1 : Int32) dX4_weather_6 (by decide) ?_
  refine rp_istore_n [(3, .int (-1 : Int32)), (0, .ref (K.2.1 + a0)), (1, .int p1), (2, .int p2)] dX4_weather_7 (by decide) rfl ?_
  refine rp_iconst (0 : Int32) dX4_weather_8 (by decide) ?_
  refine rp_istore [(4, .int (0 : Int32)), (3, .int (-1 : Int32)), (0, .ref (K.2.1 + a0)), (1, .int p1), (2, .int p2)] dX4_weather_9 (by decide) rfl ?_
  refine rp_iconst (0 : Int32) dX4_weather_11 (by decide) ?_
  refine rp_istore [(5, .int (0 : Int32)), (4, .int (0 : Int32)), (3, .int (-1 : Int32)), (0, .ref (K.2.1 + a0)), (1, .int p1), (2, .int p2)] dX4_weather_12 (by decide) rfl ?_
  refine rp_as ?_
  refine rp_join 57 (fun v9 => [(3, .int v9)]) (fun _ => []) (fun v9 => ?_) (fun hX14_0 => ?_)
  · refine rp_iload_n 0 dX4_weather_57 rfl ?_
    exact rp_pu (rp_iret rfl dX4_weather_58)
  refine rp_sub [3, 2, 1, 0] rfl (rp_it (fun (s2 : Int32 × Int32 × Int32) => [(0, .ref (K.2.1 + a0)), (3, .int s2.1), (4, .int s2.2.1), (5, .int s2.2.2)]) (fun N14 ih14 s2 => ?_) FU ((-1 : Int32), (0 : Int32), (0 : Int32)))
  refine rp_iload 3 dX4_weather_14 rfl ?_
  refine rp_iconst (4 : Int32) dX4_weather_16 (by decide) ?_
  refine rp_icmp_ge 57 dX4_weather_17 (by decide) ?_ ?_
  · exact rp_sub [1] rfl (rp_puR (hX14_0 s2.1))
  · refine rp_aload_n 0 dX4_weather_20 rfl ?_
    refine rp_getR fi_X4_21 h0 rfl dX4_weather_21 ?_
    refine rp_getRanks (by decide) dX4_weather_24 ?_
    refine rp_iload 3 dX4_weather_27 rfl ?_
    refine rp_aldRanks dX4_weather_29 (fun x3 => ?_)
    refine rp_iald (tX4_4 h0) dX4_weather_30 (fun x4 => ?_)
    refine rp_iload 2 dX4_weather_31 rfl ?_
    refine rp_as ?_
    refine rp_join 51 (fun (v7 : Int32 × Int32) => [(0, .ref (K.2.1 + a0)), (3, .int v7.1), (4, .int v7.2), (5, .int s2.2.2)]) (fun v7 => []) (fun v7 => ?_) (fun hJ51 => ?_)
    · refine rp_iinc (fun y8 => [(5, .int y8), (0, .ref (K.2.1 + a0)), (3, .int v7.1), (4, .int v7.2)]) 3 dX4_weather_51 rfl (by rfl) (by decide) (fun y8 => rfl) (fun y8 => ?_)
      refine rp_goto 14 dX4_weather_54 (by decide) ?_
      exact rp_sub [1, 2, 3, 0] rfl (ih14 (v7.1, v7.2, y8))
    refine rp_icmp_le 51 dX4_weather_33 (by decide) ?_ ?_
    · exact rp_sub [0, 1, 2, 3] rfl (rp_pu (hJ51 (s2.1, s2.2.1)))
    · refine rp_getRanks (by decide) dX4_weather_36 ?_
      refine rp_iload 3 dX4_weather_39 rfl ?_
      refine rp_aldRanks dX4_weather_41 (fun x5 => ?_)
      refine rp_istore_n [(3, .int x5), (0, .ref (K.2.1 + a0)), (4, .int s2.2.1), (5, .int s2.2.2)] dX4_weather_42 (by decide) rfl ?_
      refine rp_aload_n 1 dX4_weather_43 rfl ?_
      refine rp_getR fi_X4_21 h0 rfl dX4_weather_44 ?_
      refine rp_iload_n 0 dX4_weather_47 rfl ?_
      refine rp_iald (tX4_4 h0) dX4_weather_48 (fun x6 => ?_)
      refine rp_istore [(4, .int x6), (3, .int x5), (0, .ref (K.2.1 + a0)), (5, .int s2.2.2)] dX4_weather_49 (by decide) rfl ?_
      exact rp_sub [2, 1, 0, 3] rfl (rp_pu (hJ51 (x5, x6)))

theorem dX4_strength_0 : decode cX4_strength 0 = .ok (.aload_n 0, 1) := by decide +kernel
theorem dX4_strength_1 : decode cX4_strength 1 = .ok (.iload_n 1, 1) := by decide +kernel
theorem dX4_strength_2 : decode cX4_strength 2 = .ok (.iconst 0, 1) := by decide +kernel
theorem dX4_strength_3 : decode cX4_strength 3 = .ok (.invokevirtual 99, 3) := by decide +kernel
theorem dX4_strength_6 : decode cX4_strength 6 = .ok (.istore_n 2, 1) := by decide +kernel
theorem dX4_strength_7 : decode cX4_strength 7 = .ok (.iload_n 2, 1) := by decide +kernel
theorem dX4_strength_8 : decode cX4_strength 8 = .ok (.iconst (-1), 1) := by decide +kernel
theorem dX4_strength_9 : decode cX4_strength 9 = .ok (.if_icmp .ne 7, 3) := by decide +kernel
theorem dX4_strength_12 : decode cX4_strength 12 = .ok (.iconst 0, 1) := by decide +kernel
theorem dX4_strength_13 : decode cX4_strength 13 = .ok (.goto 9, 3) := by decide +kernel
theorem dX4_strength_16 : decode cX4_strength 16 = .ok (.aload_n 0, 1) := by decide +kernel
theorem dX4_strength_17 : decode cX4_strength 17 = .ok (.getfield 21, 3) := by decide +kernel
theorem dX4_strength_20 : decode cX4_strength 20 = .ok (.iload_n 2, 1) := by decide +kernel
theorem dX4_strength_21 : decode cX4_strength 21 = .ok (.iaload, 1) := by decide +kernel
theorem dX4_strength_22 : decode cX4_strength 22 = .ok (.ireturn, 1) := by decide +kernel
noncomputable def FX4_strength (a0 : Nat) (p1 : Int32) : PP Int32 := bd (FX4_weather a0 p1 (0 : Int32)) (fun x1 => bd (if x1 = (-1 : Int32) then pu (0 : Int32) else bd (aI (rf a0 4) 4 x1) (fun x2 => pu x2) : PP (Int32)) (fun (v3 : Int32) => pu v3))
set_option maxHeartbeats 4000000 in
set_option maxRecDepth 100000 in
theorem SX4_strength {l : Launch} {K : KK} {n : Nat} {hn : 270 ≤ n} (a0 : Nat) (p1 : Int32) (h0 : ob a0 4) : CT l K n 2 mX4_strength [.ref (K.2.1 + a0), .int p1] enI (FX4_strength a0 p1) := by
  refine CT.of2 (lv2 := [(0, .ref (K.2.1 + a0)), (1, .int p1)]) (by decide) rfl hn (Nat.le_of_ble_eq_true rfl) rfl (rp_id ?_)
  unfold FX4_strength
  refine rp_aload_n 0 dX4_strength_0 rfl ?_
  refine rp_iload_n 1 dX4_strength_1 rfl ?_
  refine rp_iconst (0 : Int32) dX4_strength_2 (by decide) ?_
  refine rp_callVi [.int p1, .int (0 : Int32)] (SX4_weather (hn := hn) a0 p1 (0 : Int32) h0) cvX4_weather (mw (i := 822) (by decide +kernel)) (by omega) h0 (by decide) rfl rfl rfl (Nat.le_of_ble_eq_true rfl) dX4_strength_3 (fun x1 => ?_)
  refine rp_istore_n [(2, .int x1), (0, .ref (K.2.1 + a0)), (1, .int p1)] dX4_strength_6 (by decide) rfl ?_
  refine rp_iload_n 0 dX4_strength_7 rfl ?_
  refine rp_iconst (-1 : Int32) dX4_strength_8 (by decide) ?_
  refine rp_as ?_
  refine rp_join 22 (fun (v3 : Int32) => []) (fun v3 => [.int v3]) (fun v3 => ?_) (fun hJ22 => ?_)
  · exact rp_pu (rp_iret rfl dX4_strength_22)
  refine rp_icmp_ne 16 dX4_strength_9 (by decide) ?_ ?_
  · refine rp_aload_n 1 dX4_strength_16 rfl ?_
    refine rp_getR fi_X4_21 h0 rfl dX4_strength_17 ?_
    refine rp_iload_n 0 dX4_strength_20 rfl ?_
    refine rp_iald (tX4_4 h0) dX4_strength_21 (fun x2 => ?_)
    exact rp_sub [] rfl (rp_pu (hJ22 x2))
  · refine rp_iconst (0 : Int32) dX4_strength_12 (by decide) ?_
    refine rp_goto 22 dX4_strength_13 (by decide) ?_
    exact rp_sub [] rfl (rp_pu (hJ22 (0 : Int32)))

theorem dX4_wind_0 : decode cX4_wind 0 = .ok (.iconst 0, 1) := by decide +kernel
theorem dX4_wind_1 : decode cX4_wind 1 = .ok (.istore_n 2, 1) := by decide +kernel
theorem dX4_wind_2 : decode cX4_wind 2 = .ok (.aload_n 0, 1) := by decide +kernel
theorem dX4_wind_3 : decode cX4_wind 3 = .ok (.getfield 24, 3) := by decide +kernel
theorem dX4_wind_6 : decode cX4_wind 6 = .ok (.getfield 96, 3) := by decide +kernel
theorem dX4_wind_9 : decode cX4_wind 9 = .ok (.iload_n 1, 1) := by decide +kernel
theorem dX4_wind_10 : decode cX4_wind 10 = .ok (.iaload, 1) := by decide +kernel
theorem dX4_wind_11 : decode cX4_wind 11 = .ok (.istore_n 3, 1) := by decide +kernel
theorem dX4_wind_12 : decode cX4_wind 12 = .ok (.iconst 0, 1) := by decide +kernel
theorem dX4_wind_13 : decode cX4_wind 13 = .ok (.istore 4, 2) := by decide +kernel
theorem dX4_wind_15 : decode cX4_wind 15 = .ok (.iload 4, 2) := by decide +kernel
theorem dX4_wind_17 : decode cX4_wind 17 = .ok (.aload_n 0, 1) := by decide +kernel
theorem dX4_wind_18 : decode cX4_wind 18 = .ok (.getfield 24, 3) := by decide +kernel
theorem dX4_wind_21 : decode cX4_wind 21 = .ok (.getfield 61, 3) := by decide +kernel
theorem dX4_wind_24 : decode cX4_wind 24 = .ok (.if_icmp .ge 63, 3) := by decide +kernel
theorem dX4_wind_27 : decode cX4_wind 27 = .ok (.aload_n 0, 1) := by decide +kernel
theorem dX4_wind_28 : decode cX4_wind 28 = .ok (.getfield 15, 3) := by decide +kernel
theorem dX4_wind_31 : decode cX4_wind 31 = .ok (.iload 4, 2) := by decide +kernel
theorem dX4_wind_33 : decode cX4_wind 33 = .ok (.iaload, 1) := by decide +kernel
theorem dX4_wind_34 : decode cX4_wind 34 = .ok (.iconst (-1), 1) := by decide +kernel
theorem dX4_wind_35 : decode cX4_wind 35 = .ok (.if_icmp .eq 22, 3) := by decide +kernel
theorem dX4_wind_38 : decode cX4_wind 38 = .ok (.iload_n 3, 1) := by decide +kernel
theorem dX4_wind_39 : decode cX4_wind 39 = .ok (.aload_n 0, 1) := by decide +kernel
theorem dX4_wind_40 : decode cX4_wind 40 = .ok (.getfield 15, 3) := by decide +kernel
theorem dX4_wind_43 : decode cX4_wind 43 = .ok (.iload 4, 2) := by decide +kernel
theorem dX4_wind_45 : decode cX4_wind 45 = .ok (.iaload, 1) := by decide +kernel
theorem dX4_wind_46 : decode cX4_wind 46 = .ok (.ishr, 1) := by decide +kernel
theorem dX4_wind_47 : decode cX4_wind 47 = .ok (.iconst 1, 1) := by decide +kernel
theorem dX4_wind_48 : decode cX4_wind 48 = .ok (.iand, 1) := by decide +kernel
theorem dX4_wind_49 : decode cX4_wind 49 = .ok (.iconst 1, 1) := by decide +kernel
theorem dX4_wind_50 : decode cX4_wind 50 = .ok (.if_icmp .ne 7, 3) := by decide +kernel
theorem dX4_wind_53 : decode cX4_wind 53 = .ok (.iconst 1, 1) := by decide +kernel
theorem dX4_wind_54 : decode cX4_wind 54 = .ok (.goto 4, 3) := by decide +kernel
theorem dX4_wind_57 : decode cX4_wind 57 = .ok (.iconst 0, 1) := by decide +kernel
theorem dX4_wind_58 : decode cX4_wind 58 = .ok (.istore 5, 2) := by decide +kernel
theorem dX4_wind_60 : decode cX4_wind 60 = .ok (.iload_n 2, 1) := by decide +kernel
theorem dX4_wind_61 : decode cX4_wind 61 = .ok (.iload 5, 2) := by decide +kernel
theorem dX4_wind_63 : decode cX4_wind 63 = .ok (.ifCond .eq 15, 3) := by decide +kernel
theorem dX4_wind_66 : decode cX4_wind 66 = .ok (.iconst 3, 1) := by decide +kernel
theorem dX4_wind_67 : decode cX4_wind 67 = .ok (.aload_n 0, 1) := by decide +kernel
theorem dX4_wind_68 : decode cX4_wind 68 = .ok (.getfield 18, 3) := by decide +kernel
theorem dX4_wind_71 : decode cX4_wind 71 = .ok (.iload 4, 2) := by decide +kernel
theorem dX4_wind_73 : decode cX4_wind 73 = .ok (.iaload, 1) := by decide +kernel
theorem dX4_wind_74 : decode cX4_wind 74 = .ok (.isub, 1) := by decide +kernel
theorem dX4_wind_75 : decode cX4_wind 75 = .ok (.goto 4, 3) := by decide +kernel
theorem dX4_wind_78 : decode cX4_wind 78 = .ok (.iconst 0, 1) := by decide +kernel
theorem dX4_wind_79 : decode cX4_wind 79 = .ok (.iadd, 1) := by decide +kernel
theorem dX4_wind_80 : decode cX4_wind 80 = .ok (.istore_n 2, 1) := by decide +kernel
theorem dX4_wind_81 : decode cX4_wind 81 = .ok (.iinc 4 1, 3) := by decide +kernel
theorem dX4_wind_84 : decode cX4_wind 84 = .ok (.goto (-69), 3) := by decide +kernel
theorem dX4_wind_87 : decode cX4_wind 87 = .ok (.iload_n 2, 1) := by decide +kernel
theorem dX4_wind_88 : decode cX4_wind 88 = .ok (.ireturn, 1) := by decide +kernel
noncomputable def FX4_wind (a0 : Nat) (p1 : Int32) : PP Int32 := bd (aI (rf (rf a0 0) 5) 4 p1) (fun x1 => bd (it (fun (s2 : Int32 × Int32) => (bd (gI (rf a0 0) 11) (fun x3 => if x3 ≤ s2.2 then pu (Sum.inr s2.1) else bd (aI (rf a0 2) 6 s2.2) (fun x4 => bd (if x4 = (-1 : Int32) then pu (0 : Int32) else bd (aI (rf a0 2) 6 s2.2) (fun x5 => if ((x1 >>> (x5 &&& 31)) &&& (1 : Int32)) = (1 : Int32) then pu (1 : Int32) else pu (0 : Int32)) : PP (Int32)) (fun (v6 : Int32) => bd (if v6 = 0 then pu (0 : Int32) else bd (aI (rf a0 3) 6 s2.2) (fun x7 => pu ((3 : Int32) - x7)) : PP (Int32)) (fun (v8 : Int32) => lt (s2.1 + v8) (fun y9 => lt (s2.2 + (1 : Int32)) (fun y10 => pu (Sum.inl (y9, y10)))))))) : PP ((Int32 × Int32) ⊕ (Int32)))) FU ((0 : Int32), (0 : Int32))) (fun (v11 : Int32) => pu v11))
set_option maxHeartbeats 4000000 in
set_option maxRecDepth 100000 in
theorem SX4_wind {l : Launch} {K : KK} {n : Nat} {hn : 270 ≤ n} (a0 : Nat) (p1 : Int32) (h0 : ob a0 4) : CT l K n 0 mX4_wind [.ref (K.2.1 + a0), .int p1] enI (FX4_wind a0 p1) := by
  refine CT.of2 (lv2 := [(0, .ref (K.2.1 + a0)), (1, .int p1)]) (by decide) rfl hn (Nat.le_of_ble_eq_true rfl) rfl (rp_id ?_)
  unfold FX4_wind
  refine rp_iconst (0 : Int32) dX4_wind_0 (by decide) ?_
  refine rp_istore_n [(2, .int (0 : Int32)), (0, .ref (K.2.1 + a0)), (1, .int p1)] dX4_wind_1 (by decide) rfl ?_
  refine rp_aload_n 1 dX4_wind_2 rfl ?_
  refine rp_getR fi_X4_24 h0 rfl dX4_wind_3 ?_
  refine rp_getR fi_X4_96 (tX4_0 h0) rfl dX4_wind_6 ?_
  refine rp_iload_n 2 dX4_wind_9 rfl ?_
  refine rp_iald (tX7_5 (tX4_0 h0)) dX4_wind_10 (fun x1 => ?_)
  refine rp_istore_n [(3, .int x1), (2, .int (0 : Int32)), (0, .ref (K.2.1 + a0)), (1, .int p1)] dX4_wind_11 (by decide) rfl ?_
  refine rp_iconst (0 : Int32) dX4_wind_12 (by decide) ?_
  refine rp_istore [(4, .int (0 : Int32)), (3, .int x1), (2, .int (0 : Int32)), (0, .ref (K.2.1 + a0)), (1, .int p1)] dX4_wind_13 (by decide) rfl ?_
  refine rp_as ?_
  refine rp_join 87 (fun v11 => [(2, .int v11)]) (fun _ => []) (fun v11 => ?_) (fun hX15_0 => ?_)
  · refine rp_iload_n 0 dX4_wind_87 rfl ?_
    exact rp_pu (rp_iret rfl dX4_wind_88)
  refine rp_sub [3, 2, 1, 0] rfl (rp_it (fun (s2 : Int32 × Int32) => [(0, .ref (K.2.1 + a0)), (2, .int s2.1), (3, .int x1), (4, .int s2.2)]) (fun N15 ih15 s2 => ?_) FU ((0 : Int32), (0 : Int32)))
  refine rp_iload 3 dX4_wind_15 rfl ?_
  refine rp_aload_n 0 dX4_wind_17 rfl ?_
  refine rp_getR fi_X4_24 h0 rfl dX4_wind_18 ?_
  refine rp_getI fi_X4_61 (tX4_0 h0) rfl dX4_wind_21 (fun x3 => ?_)
  refine rp_icmp_ge 87 dX4_wind_24 (by decide) ?_ ?_
  · exact rp_sub [1] rfl (rp_puR (hX15_0 s2.1))
  · refine rp_aload_n 0 dX4_wind_27 rfl ?_
    refine rp_getR fi_X4_15 h0 rfl dX4_wind_28 ?_
    refine rp_iload 3 dX4_wind_31 rfl ?_
    refine rp_iald (tX4_2 h0) dX4_wind_33 (fun x4 => ?_)
    refine rp_iconst (-1 : Int32) dX4_wind_34 (by decide) ?_
    refine rp_as ?_
    refine rp_join 58 (fun (v6 : Int32) => [(0, .ref (K.2.1 + a0)), (2, .int s2.1), (3, .int x1), (4, .int s2.2)]) (fun v6 => [.int v6]) (fun v6 => ?_) (fun hJ58 => ?_)
    · refine rp_istore [(5, .int v6), (0, .ref (K.2.1 + a0)), (2, .int s2.1), (3, .int x1), (4, .int s2.2)] dX4_wind_58 (by decide) rfl ?_
      refine rp_iload_n 2 dX4_wind_60 rfl ?_
      refine rp_iload 0 dX4_wind_61 rfl ?_
      refine rp_as ?_
      refine rp_join 79 (fun (v8 : Int32) => [(0, .ref (K.2.1 + a0)), (3, .int x1), (4, .int s2.2)]) (fun v8 => [.int v8, .int s2.1]) (fun v8 => ?_) (fun hJ79 => ?_)
      · refine rp_iadd dX4_wind_79 ?_
        refine rp_lti (fun y9 => ?_)
        refine rp_istore_n [(2, .int y9), (0, .ref (K.2.1 + a0)), (3, .int x1), (4, .int s2.2)] dX4_wind_80 (by decide) rfl ?_
        refine rp_iinc (fun y10 => [(4, .int y10), (2, .int y9), (0, .ref (K.2.1 + a0)), (3, .int x1)]) 3 dX4_wind_81 rfl (by rfl) (by decide) (fun y10 => rfl) (fun y10 => ?_)
        refine rp_goto 15 dX4_wind_84 (by decide) ?_
        exact rp_sub [2, 1, 3, 0] rfl (ih15 (y9, y10))
      refine rp_if_eq 78 dX4_wind_63 (by decide) ?_ ?_
      · refine rp_iconst (0 : Int32) dX4_wind_78 (by decide) ?_
        exact rp_sub [1, 3, 4] rfl (rp_pu (hJ79 (0 : Int32)))
      · refine rp_iconst (3 : Int32) dX4_wind_66 (by decide) ?_
        refine rp_aload_n 1 dX4_wind_67 rfl ?_
        refine rp_getR fi_X4_18 h0 rfl dX4_wind_68 ?_
        refine rp_iload 4 dX4_wind_71 rfl ?_
        refine rp_iald (tX4_3 h0) dX4_wind_73 (fun x7 => ?_)
        refine rp_isub dX4_wind_74 ?_
        refine rp_goto 79 dX4_wind_75 (by decide) ?_
        exact rp_sub [1, 3, 4] rfl (rp_pu (hJ79 ((3 : Int32) - x7)))
    refine rp_icmp_eq 57 dX4_wind_35 (by decide) ?_ ?_
    · refine rp_iconst (0 : Int32) dX4_wind_57 (by decide) ?_
      exact rp_sub [0, 1, 2, 3] rfl (rp_pu (hJ58 (0 : Int32)))
    · refine rp_iload_n 2 dX4_wind_38 rfl ?_
      refine rp_aload_n 0 dX4_wind_39 rfl ?_
      refine rp_getR fi_X4_15 h0 rfl dX4_wind_40 ?_
      refine rp_iload 3 dX4_wind_43 rfl ?_
      refine rp_iald (tX4_2 h0) dX4_wind_45 (fun x5 => ?_)
      refine rp_ishr dX4_wind_46 ?_
      refine rp_iconst (1 : Int32) dX4_wind_47 (by decide) ?_
      refine rp_iand dX4_wind_48 ?_
      refine rp_iconst (1 : Int32) dX4_wind_49 (by decide) ?_
      refine rp_icmp_ne 57 dX4_wind_50 (by decide) ?_ ?_
      · refine rp_iconst (0 : Int32) dX4_wind_57 (by decide) ?_
        exact rp_sub [0, 1, 2, 3] rfl (rp_pu (hJ58 (0 : Int32)))
      · refine rp_iconst (1 : Int32) dX4_wind_53 (by decide) ?_
        refine rp_goto 58 dX4_wind_54 (by decide) ?_
        exact rp_sub [0, 1, 2, 3] rfl (rp_pu (hJ58 (1 : Int32)))

theorem dX4_thunders_0 : decode cX4_thunders 0 = .ok (.iconst 0, 1) := by decide +kernel
theorem dX4_thunders_1 : decode cX4_thunders 1 = .ok (.istore_n 1, 1) := by decide +kernel
theorem dX4_thunders_2 : decode cX4_thunders 2 = .ok (.iload_n 1, 1) := by decide +kernel
theorem dX4_thunders_3 : decode cX4_thunders 3 = .ok (.aload_n 0, 1) := by decide +kernel
theorem dX4_thunders_4 : decode cX4_thunders 4 = .ok (.getfield 24, 3) := by decide +kernel
theorem dX4_thunders_7 : decode cX4_thunders 7 = .ok (.getfield 102, 3) := by decide +kernel
theorem dX4_thunders_10 : decode cX4_thunders 10 = .ok (.if_icmp .ge 21, 3) := by decide +kernel
theorem dX4_thunders_13 : decode cX4_thunders 13 = .ok (.aload_n 0, 1) := by decide +kernel
theorem dX4_thunders_14 : decode cX4_thunders 14 = .ok (.iload_n 1, 1) := by decide +kernel
theorem dX4_thunders_15 : decode cX4_thunders 15 = .ok (.iconst 0, 1) := by decide +kernel
theorem dX4_thunders_16 : decode cX4_thunders 16 = .ok (.invokevirtual 99, 3) := by decide +kernel
theorem dX4_thunders_19 : decode cX4_thunders 19 = .ok (.iconst 2, 1) := by decide +kernel
theorem dX4_thunders_20 : decode cX4_thunders 20 = .ok (.if_icmp .ne 5, 3) := by decide +kernel
theorem dX4_thunders_23 : decode cX4_thunders 23 = .ok (.iconst 1, 1) := by decide +kernel
theorem dX4_thunders_24 : decode cX4_thunders 24 = .ok (.ireturn, 1) := by decide +kernel
theorem dX4_thunders_25 : decode cX4_thunders 25 = .ok (.iinc 1 1, 3) := by decide +kernel
theorem dX4_thunders_28 : decode cX4_thunders 28 = .ok (.goto (-26), 3) := by decide +kernel
theorem dX4_thunders_31 : decode cX4_thunders 31 = .ok (.iconst 0, 1) := by decide +kernel
theorem dX4_thunders_32 : decode cX4_thunders 32 = .ok (.ireturn, 1) := by decide +kernel
noncomputable def FX4_thunders (a0 : Nat) : PP Bool := bd (it (fun (s1 : Int32) => (bd (gI (rf a0 0) 10) (fun x2 => if x2 ≤ s1 then pu (Sum.inr (Sum.inl ())) else bd (FX4_weather a0 s1 (0 : Int32)) (fun x3 => if x3 = (2 : Int32) then pu (Sum.inr (Sum.inr (()))) else lt (s1 + (1 : Int32)) (fun y4 => pu (Sum.inl y4)))) : PP ((Int32) ⊕ ((Unit) ⊕ (Unit))))) FU (0 : Int32)) (Sum.elim (fun (v5 : Unit) => zb (0 : Int32)) (fun (v6 : Unit) => zb (1 : Int32)))
set_option maxHeartbeats 4000000 in
set_option maxRecDepth 100000 in
theorem SX4_thunders {l : Launch} {K : KK} {n : Nat} {hn : 270 ≤ n} (a0 : Nat) (h0 : ob a0 4) : CT l K n 2 mX4_thunders [.ref (K.2.1 + a0)] enZ (FX4_thunders a0) := by
  refine CT.of2 (lv2 := [(0, .ref (K.2.1 + a0))]) (by decide) rfl hn (Nat.le_of_ble_eq_true rfl) rfl (rp_id ?_)
  unfold FX4_thunders
  refine rp_iconst (0 : Int32) dX4_thunders_0 (by decide) ?_
  refine rp_istore_n [(1, .int (0 : Int32)), (0, .ref (K.2.1 + a0))] dX4_thunders_1 (by decide) rfl ?_
  refine rp_as ?_
  refine rp_join2 31 (fun v5 => []) (fun _ => []) 23 (fun v6 => []) (fun _ => []) (fun v5 => ?_) (fun v6 => ?_) (fun hX2_0 hX2_1 => ?_)
  · refine rp_iconst (0 : Int32) dX4_thunders_31 (by decide) ?_
    exact rp_zretb rfl dX4_thunders_32
  · refine rp_iconst (1 : Int32) dX4_thunders_23 (by decide) ?_
    exact rp_zretb rfl dX4_thunders_24
  refine rp_sub [1, 0] rfl (rp_it (fun (s1 : Int32) => [(0, .ref (K.2.1 + a0)), (1, .int s1)]) (fun N2 ih2 s1 => ?_) FU (0 : Int32))
  refine rp_iload_n 1 dX4_thunders_2 rfl ?_
  refine rp_aload_n 0 dX4_thunders_3 rfl ?_
  refine rp_getR fi_X4_24 h0 rfl dX4_thunders_4 ?_
  refine rp_getI fi_X4_102 (tX4_0 h0) rfl dX4_thunders_7 (fun x2 => ?_)
  refine rp_icmp_ge 31 dX4_thunders_10 (by decide) ?_ ?_
  · exact rp_sub [] rfl (rp_puRL (hX2_0 ()))
  · refine rp_aload_n 0 dX4_thunders_13 rfl ?_
    refine rp_iload_n 1 dX4_thunders_14 rfl ?_
    refine rp_iconst (0 : Int32) dX4_thunders_15 (by decide) ?_
    refine rp_callVi [.int s1, .int (0 : Int32)] (SX4_weather (hn := hn) a0 s1 (0 : Int32) h0) cvX4_weather (mw (i := 822) (by decide +kernel)) (by omega) h0 (by decide) rfl rfl rfl (Nat.le_of_ble_eq_true rfl) dX4_thunders_16 (fun x3 => ?_)
    refine rp_iconst (2 : Int32) dX4_thunders_19 (by decide) ?_
    refine rp_icmp_ne 25 dX4_thunders_20 (by decide) ?_ ?_
    · refine rp_iinc (fun y4 => [(1, .int y4), (0, .ref (K.2.1 + a0))]) 1 dX4_thunders_25 rfl (by rfl) (by decide) (fun y4 => rfl) (fun y4 => ?_)
      refine rp_goto 2 dX4_thunders_28 (by decide) ?_
      exact rp_sub [1, 0] rfl (ih2 y4)
    · exact rp_sub [] rfl (rp_puRR (hX2_1 ()))

theorem dX4_hasWet_0 : decode cX4_hasWet 0 = .ok (.iconst 0, 1) := by decide +kernel
theorem dX4_hasWet_1 : decode cX4_hasWet 1 = .ok (.istore_n 3, 1) := by decide +kernel
theorem dX4_hasWet_2 : decode cX4_hasWet 2 = .ok (.iload_n 3, 1) := by decide +kernel
theorem dX4_hasWet_3 : decode cX4_hasWet 3 = .ok (.aload_n 0, 1) := by decide +kernel
theorem dX4_hasWet_4 : decode cX4_hasWet 4 = .ok (.getfield 24, 3) := by decide +kernel
theorem dX4_hasWet_7 : decode cX4_hasWet 7 = .ok (.getfield 61, 3) := by decide +kernel
theorem dX4_hasWet_10 : decode cX4_hasWet 10 = .ok (.if_icmp .ge 52, 3) := by decide +kernel
theorem dX4_hasWet_13 : decode cX4_hasWet 13 = .ok (.aload_n 0, 1) := by decide +kernel
theorem dX4_hasWet_14 : decode cX4_hasWet 14 = .ok (.getfield 15, 3) := by decide +kernel
theorem dX4_hasWet_17 : decode cX4_hasWet 17 = .ok (.iload_n 3, 1) := by decide +kernel
theorem dX4_hasWet_18 : decode cX4_hasWet 18 = .ok (.iaload, 1) := by decide +kernel
theorem dX4_hasWet_19 : decode cX4_hasWet 19 = .ok (.iload_n 1, 1) := by decide +kernel
theorem dX4_hasWet_20 : decode cX4_hasWet 20 = .ok (.if_icmp .ne 36, 3) := by decide +kernel
theorem dX4_hasWet_23 : decode cX4_hasWet 23 = .ok (.aload_n 0, 1) := by decide +kernel
theorem dX4_hasWet_24 : decode cX4_hasWet 24 = .ok (.getfield 9, 3) := by decide +kernel
theorem dX4_hasWet_27 : decode cX4_hasWet 27 = .ok (.iload_n 3, 1) := by decide +kernel
theorem dX4_hasWet_28 : decode cX4_hasWet 28 = .ok (.iaload, 1) := by decide +kernel
theorem dX4_hasWet_29 : decode cX4_hasWet 29 = .ok (.ifCond .le 27, 3) := by decide +kernel
theorem dX4_hasWet_32 : decode cX4_hasWet 32 = .ok (.aload_n 0, 1) := by decide +kernel
theorem dX4_hasWet_33 : decode cX4_hasWet 33 = .ok (.getfield 24, 3) := by decide +kernel
theorem dX4_hasWet_36 : decode cX4_hasWet 36 = .ok (.getfield 80, 3) := by decide +kernel
theorem dX4_hasWet_39 : decode cX4_hasWet 39 = .ok (.iload_n 3, 1) := by decide +kernel
theorem dX4_hasWet_40 : decode cX4_hasWet 40 = .ok (.iaload, 1) := by decide +kernel
theorem dX4_hasWet_41 : decode cX4_hasWet 41 = .ok (.iconst 1, 1) := by decide +kernel
theorem dX4_hasWet_42 : decode cX4_hasWet 42 = .ok (.if_icmp .ne 7, 3) := by decide +kernel
theorem dX4_hasWet_45 : decode cX4_hasWet 45 = .ok (.iconst 1, 1) := by decide +kernel
theorem dX4_hasWet_46 : decode cX4_hasWet 46 = .ok (.goto 4, 3) := by decide +kernel
theorem dX4_hasWet_49 : decode cX4_hasWet 49 = .ok (.iconst 0, 1) := by decide +kernel
theorem dX4_hasWet_50 : decode cX4_hasWet 50 = .ok (.iload_n 2, 1) := by decide +kernel
theorem dX4_hasWet_51 : decode cX4_hasWet 51 = .ok (.if_icmp .ne 5, 3) := by decide +kernel
theorem dX4_hasWet_54 : decode cX4_hasWet 54 = .ok (.iconst 1, 1) := by decide +kernel
theorem dX4_hasWet_55 : decode cX4_hasWet 55 = .ok (.ireturn, 1) := by decide +kernel
theorem dX4_hasWet_56 : decode cX4_hasWet 56 = .ok (.iinc 3 1, 3) := by decide +kernel
theorem dX4_hasWet_59 : decode cX4_hasWet 59 = .ok (.goto (-57), 3) := by decide +kernel
theorem dX4_hasWet_62 : decode cX4_hasWet 62 = .ok (.iconst 0, 1) := by decide +kernel
theorem dX4_hasWet_63 : decode cX4_hasWet 63 = .ok (.ireturn, 1) := by decide +kernel
noncomputable def FX4_hasWet (a0 : Nat) (p1 : Int32) (p2 : Int32) : PP Bool := bd (it (fun (s1 : Int32) => (bd (gI (rf a0 0) 11) (fun x2 => if x2 ≤ s1 then pu (Sum.inr (Sum.inl ())) else bd (aI (rf a0 2) 6 s1) (fun x3 => if x3 = p1 then bd (aI (rf a0 1) 6 s1) (fun x5 => if x5 ≤ 0 then lt (s1 + (1 : Int32)) (fun y6 => pu (Sum.inl y6)) else bd (aI (rf (rf a0 0) 6) 6 s1) (fun x7 => bd (if x7 = (1 : Int32) then pu (1 : Int32) else pu (0 : Int32) : PP (Int32)) (fun (v8 : Int32) => if v8 = p2 then pu (Sum.inr (Sum.inr (()))) else lt (s1 + (1 : Int32)) (fun y9 => pu (Sum.inl y9))))) else lt (s1 + (1 : Int32)) (fun y4 => pu (Sum.inl y4)))) : PP ((Int32) ⊕ ((Unit) ⊕ (Unit))))) FU (0 : Int32)) (Sum.elim (fun (v10 : Unit) => zb (0 : Int32)) (fun (v11 : Unit) => zb (1 : Int32)))
set_option maxHeartbeats 4000000 in
set_option maxRecDepth 100000 in
theorem SX4_hasWet {l : Launch} {K : KK} {n : Nat} {hn : 270 ≤ n} (a0 : Nat) (p1 : Int32) (p2 : Int32) (h0 : ob a0 4) : CT l K n 0 mX4_hasWet [.ref (K.2.1 + a0), .int p1, .int p2] enZ (FX4_hasWet a0 p1 p2) := by
  refine CT.of2 (lv2 := [(0, .ref (K.2.1 + a0)), (1, .int p1), (2, .int p2)]) (by decide) rfl hn (Nat.le_of_ble_eq_true rfl) rfl (rp_id ?_)
  unfold FX4_hasWet
  refine rp_iconst (0 : Int32) dX4_hasWet_0 (by decide) ?_
  refine rp_istore_n [(3, .int (0 : Int32)), (0, .ref (K.2.1 + a0)), (1, .int p1), (2, .int p2)] dX4_hasWet_1 (by decide) rfl ?_
  refine rp_as ?_
  refine rp_join2 62 (fun v10 => []) (fun _ => []) 54 (fun v11 => []) (fun _ => []) (fun v10 => ?_) (fun v11 => ?_) (fun hX2_0 hX2_1 => ?_)
  · refine rp_iconst (0 : Int32) dX4_hasWet_62 (by decide) ?_
    exact rp_zretb rfl dX4_hasWet_63
  · refine rp_iconst (1 : Int32) dX4_hasWet_54 (by decide) ?_
    exact rp_zretb rfl dX4_hasWet_55
  refine rp_sub [1, 2, 3, 0] rfl (rp_it (fun (s1 : Int32) => [(0, .ref (K.2.1 + a0)), (1, .int p1), (2, .int p2), (3, .int s1)]) (fun N2 ih2 s1 => ?_) FU (0 : Int32))
  refine rp_iload_n 3 dX4_hasWet_2 rfl ?_
  refine rp_aload_n 0 dX4_hasWet_3 rfl ?_
  refine rp_getR fi_X4_24 h0 rfl dX4_hasWet_4 ?_
  refine rp_getI fi_X4_61 (tX4_0 h0) rfl dX4_hasWet_7 (fun x2 => ?_)
  refine rp_icmp_ge 62 dX4_hasWet_10 (by decide) ?_ ?_
  · exact rp_sub [] rfl (rp_puRL (hX2_0 ()))
  · refine rp_aload_n 0 dX4_hasWet_13 rfl ?_
    refine rp_getR fi_X4_15 h0 rfl dX4_hasWet_14 ?_
    refine rp_iload_n 3 dX4_hasWet_17 rfl ?_
    refine rp_iald (tX4_2 h0) dX4_hasWet_18 (fun x3 => ?_)
    refine rp_iload_n 1 dX4_hasWet_19 rfl ?_
    refine rp_icmp_ne 56 dX4_hasWet_20 (by decide) ?_ ?_
    · refine rp_iinc (fun y4 => [(3, .int y4), (0, .ref (K.2.1 + a0)), (1, .int p1), (2, .int p2)]) 3 dX4_hasWet_56 rfl (by rfl) (by decide) (fun y4 => rfl) (fun y4 => ?_)
      refine rp_goto 2 dX4_hasWet_59 (by decide) ?_
      exact rp_sub [1, 2, 3, 0] rfl (ih2 y4)
    · refine rp_aload_n 0 dX4_hasWet_23 rfl ?_
      refine rp_getR fi_X4_9 h0 rfl dX4_hasWet_24 ?_
      refine rp_iload_n 3 dX4_hasWet_27 rfl ?_
      refine rp_iald (tX4_1 h0) dX4_hasWet_28 (fun x5 => ?_)
      refine rp_if_le 56 dX4_hasWet_29 (by decide) ?_ ?_
      · refine rp_iinc (fun y6 => [(3, .int y6), (0, .ref (K.2.1 + a0)), (1, .int p1), (2, .int p2)]) 3 dX4_hasWet_56 rfl (by rfl) (by decide) (fun y6 => rfl) (fun y6 => ?_)
        refine rp_goto 2 dX4_hasWet_59 (by decide) ?_
        exact rp_sub [1, 2, 3, 0] rfl (ih2 y6)
      · refine rp_aload_n 0 dX4_hasWet_32 rfl ?_
        refine rp_getR fi_X4_24 h0 rfl dX4_hasWet_33 ?_
        refine rp_getR fi_X4_80 (tX4_0 h0) rfl dX4_hasWet_36 ?_
        refine rp_iload_n 3 dX4_hasWet_39 rfl ?_
        refine rp_iald (tX7_6 (tX4_0 h0)) dX4_hasWet_40 (fun x7 => ?_)
        refine rp_iconst (1 : Int32) dX4_hasWet_41 (by decide) ?_
        refine rp_as ?_
        refine rp_join 50 (fun (v8 : Int32) => [(0, .ref (K.2.1 + a0)), (1, .int p1), (2, .int p2), (3, .int s1)]) (fun v8 => [.int v8]) (fun v8 => ?_) (fun hJ50 => ?_)
        · refine rp_iload_n 2 dX4_hasWet_50 rfl ?_
          refine rp_icmp_ne 56 dX4_hasWet_51 (by decide) ?_ ?_
          · refine rp_iinc (fun y9 => [(3, .int y9), (0, .ref (K.2.1 + a0)), (1, .int p1), (2, .int p2)]) 3 dX4_hasWet_56 rfl (by rfl) (by decide) (fun y9 => rfl) (fun y9 => ?_)
            refine rp_goto 2 dX4_hasWet_59 (by decide) ?_
            exact rp_sub [1, 2, 3, 0] rfl (ih2 y9)
          · exact rp_sub [] rfl (rp_puRR (hX2_1 ()))
        refine rp_icmp_ne 49 dX4_hasWet_42 (by decide) ?_ ?_
        · refine rp_iconst (0 : Int32) dX4_hasWet_49 (by decide) ?_
          exact rp_sub [0, 1, 2, 3] rfl (rp_pu (hJ50 (0 : Int32)))
        · refine rp_iconst (1 : Int32) dX4_hasWet_45 (by decide) ?_
          refine rp_goto 50 dX4_hasWet_46 (by decide) ?_
          exact rp_sub [0, 1, 2, 3] rfl (rp_pu (hJ50 (1 : Int32)))

theorem dX4_bothWet_0 : decode cX4_bothWet 0 = .ok (.aload_n 0, 1) := by decide +kernel
theorem dX4_bothWet_1 : decode cX4_bothWet 1 = .ok (.iload_n 1, 1) := by decide +kernel
theorem dX4_bothWet_2 : decode cX4_bothWet 2 = .ok (.iconst 1, 1) := by decide +kernel
theorem dX4_bothWet_3 : decode cX4_bothWet 3 = .ok (.invokevirtual 105, 3) := by decide +kernel
theorem dX4_bothWet_6 : decode cX4_bothWet 6 = .ok (.ifCond .ne 12, 3) := by decide +kernel
theorem dX4_bothWet_9 : decode cX4_bothWet 9 = .ok (.aload_n 0, 1) := by decide +kernel
theorem dX4_bothWet_10 : decode cX4_bothWet 10 = .ok (.iload_n 1, 1) := by decide +kernel
theorem dX4_bothWet_11 : decode cX4_bothWet 11 = .ok (.iconst 0, 1) := by decide +kernel
theorem dX4_bothWet_12 : decode cX4_bothWet 12 = .ok (.invokevirtual 105, 3) := by decide +kernel
theorem dX4_bothWet_15 : decode cX4_bothWet 15 = .ok (.ifCond .eq 25, 3) := by decide +kernel
theorem dX4_bothWet_18 : decode cX4_bothWet 18 = .ok (.aload_n 0, 1) := by decide +kernel
theorem dX4_bothWet_19 : decode cX4_bothWet 19 = .ok (.iload_n 2, 1) := by decide +kernel
theorem dX4_bothWet_20 : decode cX4_bothWet 20 = .ok (.iconst 1, 1) := by decide +kernel
theorem dX4_bothWet_21 : decode cX4_bothWet 21 = .ok (.invokevirtual 105, 3) := by decide +kernel
theorem dX4_bothWet_24 : decode cX4_bothWet 24 = .ok (.ifCond .ne 12, 3) := by decide +kernel
theorem dX4_bothWet_27 : decode cX4_bothWet 27 = .ok (.aload_n 0, 1) := by decide +kernel
theorem dX4_bothWet_28 : decode cX4_bothWet 28 = .ok (.iload_n 2, 1) := by decide +kernel
theorem dX4_bothWet_29 : decode cX4_bothWet 29 = .ok (.iconst 0, 1) := by decide +kernel
theorem dX4_bothWet_30 : decode cX4_bothWet 30 = .ok (.invokevirtual 105, 3) := by decide +kernel
theorem dX4_bothWet_33 : decode cX4_bothWet 33 = .ok (.ifCond .eq 7, 3) := by decide +kernel
theorem dX4_bothWet_36 : decode cX4_bothWet 36 = .ok (.iconst 1, 1) := by decide +kernel
theorem dX4_bothWet_37 : decode cX4_bothWet 37 = .ok (.goto 4, 3) := by decide +kernel
theorem dX4_bothWet_40 : decode cX4_bothWet 40 = .ok (.iconst 0, 1) := by decide +kernel
theorem dX4_bothWet_41 : decode cX4_bothWet 41 = .ok (.ireturn, 1) := by decide +kernel
noncomputable def FX4_bothWet (a0 : Nat) (p1 : Int32) (p2 : Int32) : PP Bool := bd (FX4_hasWet a0 p1 (1 : Int32)) (fun x1 => bd (jn (fun (v4 : Unit) => bd (FX4_hasWet a0 p2 (1 : Int32)) (fun x5 => if ((b2i x5)) = 0 then bd (FX4_hasWet a0 p2 (0 : Int32)) (fun x6 => if ((b2i x6)) = 0 then pu (0 : Int32) else pu (1 : Int32)) else pu (1 : Int32))) (fun j2 => if ((b2i x1)) = 0 then bd (FX4_hasWet a0 p1 (0 : Int32)) (fun x3 => if ((b2i x3)) = 0 then pu (0 : Int32) else j2 ()) else j2 ()) : PP (Int32)) (fun (v7 : Int32) => zb v7))
set_option maxHeartbeats 4000000 in
set_option maxRecDepth 100000 in
theorem SX4_bothWet {l : Launch} {K : KK} {n : Nat} {hn : 270 ≤ n} (a0 : Nat) (p1 : Int32) (p2 : Int32) (h0 : ob a0 4) : CT l K n 1 mX4_bothWet [.ref (K.2.1 + a0), .int p1, .int p2] enZ (FX4_bothWet a0 p1 p2) := by
  refine CT.of2 (lv2 := [(0, .ref (K.2.1 + a0)), (1, .int p1), (2, .int p2)]) (by decide) rfl hn (Nat.le_of_ble_eq_true rfl) rfl (rp_id ?_)
  unfold FX4_bothWet
  refine rp_aload_n 0 dX4_bothWet_0 rfl ?_
  refine rp_iload_n 1 dX4_bothWet_1 rfl ?_
  refine rp_iconst (1 : Int32) dX4_bothWet_2 (by decide) ?_
  refine rp_callVz [.int p1, .int (1 : Int32)] (SX4_hasWet (hn := hn) a0 p1 (1 : Int32) h0) cvX4_hasWet (mw (i := 1121) (by decide +kernel)) (by omega) h0 (by decide) rfl rfl rfl (Nat.le_of_ble_eq_true rfl) dX4_bothWet_3 (fun x1 => ?_)
  refine rp_as ?_
  refine rp_join 41 (fun (v7 : Int32) => []) (fun v7 => [.int v7]) (fun v7 => ?_) (fun hJ41 => ?_)
  · exact rp_zretb rfl dX4_bothWet_41
  refine rp_jn2 18 (fun (v4 : Unit) => [(0, .ref (K.2.1 + a0)), (2, .int p2)]) (fun v4 => []) (fun v4 => ?_) (fun hK18 => ?_)
  · refine rp_aload_n 0 dX4_bothWet_18 rfl ?_
    refine rp_iload_n 1 dX4_bothWet_19 rfl ?_
    refine rp_iconst (1 : Int32) dX4_bothWet_20 (by decide) ?_
    refine rp_callVz [.int p2, .int (1 : Int32)] (SX4_hasWet (hn := hn) a0 p2 (1 : Int32) h0) cvX4_hasWet (mw (i := 1121) (by decide +kernel)) (by omega) h0 (by decide) rfl rfl rfl (Nat.le_of_ble_eq_true rfl) dX4_bothWet_21 (fun x5 => ?_)
    refine rp_if_ne 36 dX4_bothWet_24 (by decide) ?_ ?_
    · refine rp_iconst (1 : Int32) dX4_bothWet_36 (by decide) ?_
      refine rp_goto 41 dX4_bothWet_37 (by decide) ?_
      exact rp_sub [] rfl (rp_pu (hJ41 (1 : Int32)))
    · refine rp_aload_n 0 dX4_bothWet_27 rfl ?_
      refine rp_iload_n 1 dX4_bothWet_28 rfl ?_
      refine rp_iconst (0 : Int32) dX4_bothWet_29 (by decide) ?_
      refine rp_callVz [.int p2, .int (0 : Int32)] (SX4_hasWet (hn := hn) a0 p2 (0 : Int32) h0) cvX4_hasWet (mw (i := 1121) (by decide +kernel)) (by omega) h0 (by decide) rfl rfl rfl (Nat.le_of_ble_eq_true rfl) dX4_bothWet_30 (fun x6 => ?_)
      refine rp_if_eq 40 dX4_bothWet_33 (by decide) ?_ ?_
      · refine rp_iconst (0 : Int32) dX4_bothWet_40 (by decide) ?_
        exact rp_sub [] rfl (rp_pu (hJ41 (0 : Int32)))
      · refine rp_iconst (1 : Int32) dX4_bothWet_36 (by decide) ?_
        refine rp_goto 41 dX4_bothWet_37 (by decide) ?_
        exact rp_sub [] rfl (rp_pu (hJ41 (1 : Int32)))
  refine rp_if_ne 18 dX4_bothWet_6 (by decide) ?_ ?_
  · exact rp_sub [0, 2] rfl (hK18 ())
  · refine rp_aload_n 0 dX4_bothWet_9 rfl ?_
    refine rp_iload_n 1 dX4_bothWet_10 rfl ?_
    refine rp_iconst (0 : Int32) dX4_bothWet_11 (by decide) ?_
    refine rp_callVz [.int p1, .int (0 : Int32)] (SX4_hasWet (hn := hn) a0 p1 (0 : Int32) h0) cvX4_hasWet (mw (i := 1121) (by decide +kernel)) (by omega) h0 (by decide) rfl rfl rfl (Nat.le_of_ble_eq_true rfl) dX4_bothWet_12 (fun x3 => ?_)
    refine rp_if_eq 40 dX4_bothWet_15 (by decide) ?_ ?_
    · refine rp_iconst (0 : Int32) dX4_bothWet_40 (by decide) ?_
      exact rp_sub [] rfl (rp_pu (hJ41 (0 : Int32)))
    · exact rp_sub [0, 2] rfl (hK18 ())

theorem dX4_isRainbow_0 : decode cX4_isRainbow 0 = .ok (.aload_n 0, 1) := by decide +kernel
theorem dX4_isRainbow_1 : decode cX4_isRainbow 1 = .ok (.iload_n 1, 1) := by decide +kernel
theorem dX4_isRainbow_2 : decode cX4_isRainbow 2 = .ok (.iconst 1, 1) := by decide +kernel
theorem dX4_isRainbow_3 : decode cX4_isRainbow 3 = .ok (.invokevirtual 105, 3) := by decide +kernel
theorem dX4_isRainbow_6 : decode cX4_isRainbow 6 = .ok (.ifCond .eq 12, 3) := by decide +kernel
theorem dX4_isRainbow_9 : decode cX4_isRainbow 9 = .ok (.aload_n 0, 1) := by decide +kernel
theorem dX4_isRainbow_10 : decode cX4_isRainbow 10 = .ok (.iload_n 2, 1) := by decide +kernel
theorem dX4_isRainbow_11 : decode cX4_isRainbow 11 = .ok (.iconst 0, 1) := by decide +kernel
theorem dX4_isRainbow_12 : decode cX4_isRainbow 12 = .ok (.invokevirtual 105, 3) := by decide +kernel
theorem dX4_isRainbow_15 : decode cX4_isRainbow 15 = .ok (.ifCond .ne 21, 3) := by decide +kernel
theorem dX4_isRainbow_18 : decode cX4_isRainbow 18 = .ok (.aload_n 0, 1) := by decide +kernel
theorem dX4_isRainbow_19 : decode cX4_isRainbow 19 = .ok (.iload_n 1, 1) := by decide +kernel
theorem dX4_isRainbow_20 : decode cX4_isRainbow 20 = .ok (.iconst 0, 1) := by decide +kernel
theorem dX4_isRainbow_21 : decode cX4_isRainbow 21 = .ok (.invokevirtual 105, 3) := by decide +kernel
theorem dX4_isRainbow_24 : decode cX4_isRainbow 24 = .ok (.ifCond .eq 16, 3) := by decide +kernel
theorem dX4_isRainbow_27 : decode cX4_isRainbow 27 = .ok (.aload_n 0, 1) := by decide +kernel
theorem dX4_isRainbow_28 : decode cX4_isRainbow 28 = .ok (.iload_n 2, 1) := by decide +kernel
theorem dX4_isRainbow_29 : decode cX4_isRainbow 29 = .ok (.iconst 1, 1) := by decide +kernel
theorem dX4_isRainbow_30 : decode cX4_isRainbow 30 = .ok (.invokevirtual 105, 3) := by decide +kernel
theorem dX4_isRainbow_33 : decode cX4_isRainbow 33 = .ok (.ifCond .eq 7, 3) := by decide +kernel
theorem dX4_isRainbow_36 : decode cX4_isRainbow 36 = .ok (.iconst 1, 1) := by decide +kernel
theorem dX4_isRainbow_37 : decode cX4_isRainbow 37 = .ok (.goto 4, 3) := by decide +kernel
theorem dX4_isRainbow_40 : decode cX4_isRainbow 40 = .ok (.iconst 0, 1) := by decide +kernel
theorem dX4_isRainbow_41 : decode cX4_isRainbow 41 = .ok (.ireturn, 1) := by decide +kernel
noncomputable def FX4_isRainbow (a0 : Nat) (p1 : Int32) (p2 : Int32) : PP Bool := bd (FX4_hasWet a0 p1 (1 : Int32)) (fun x1 => bd (jn (fun (v4 : Unit) => bd (FX4_hasWet a0 p1 (0 : Int32)) (fun x5 => if ((b2i x5)) = 0 then pu (0 : Int32) else bd (FX4_hasWet a0 p2 (1 : Int32)) (fun x6 => if ((b2i x6)) = 0 then pu (0 : Int32) else pu (1 : Int32)))) (fun j2 => if ((b2i x1)) = 0 then j2 () else bd (FX4_hasWet a0 p2 (0 : Int32)) (fun x3 => if ((b2i x3)) = 0 then j2 () else pu (1 : Int32))) : PP (Int32)) (fun (v7 : Int32) => zb v7))
set_option maxHeartbeats 4000000 in
set_option maxRecDepth 100000 in
theorem SX4_isRainbow {l : Launch} {K : KK} {n : Nat} {hn : 270 ≤ n} (a0 : Nat) (p1 : Int32) (p2 : Int32) (h0 : ob a0 4) : CT l K n 1 mX4_isRainbow [.ref (K.2.1 + a0), .int p1, .int p2] enZ (FX4_isRainbow a0 p1 p2) := by
  refine CT.of2 (lv2 := [(0, .ref (K.2.1 + a0)), (1, .int p1), (2, .int p2)]) (by decide) rfl hn (Nat.le_of_ble_eq_true rfl) rfl (rp_id ?_)
  unfold FX4_isRainbow
  refine rp_aload_n 0 dX4_isRainbow_0 rfl ?_
  refine rp_iload_n 1 dX4_isRainbow_1 rfl ?_
  refine rp_iconst (1 : Int32) dX4_isRainbow_2 (by decide) ?_
  refine rp_callVz [.int p1, .int (1 : Int32)] (SX4_hasWet (hn := hn) a0 p1 (1 : Int32) h0) cvX4_hasWet (mw (i := 1121) (by decide +kernel)) (by omega) h0 (by decide) rfl rfl rfl (Nat.le_of_ble_eq_true rfl) dX4_isRainbow_3 (fun x1 => ?_)
  refine rp_as ?_
  refine rp_join 41 (fun (v7 : Int32) => []) (fun v7 => [.int v7]) (fun v7 => ?_) (fun hJ41 => ?_)
  · exact rp_zretb rfl dX4_isRainbow_41
  refine rp_jn2 18 (fun (v4 : Unit) => [(0, .ref (K.2.1 + a0)), (1, .int p1), (2, .int p2)]) (fun v4 => []) (fun v4 => ?_) (fun hK18 => ?_)
  · refine rp_aload_n 0 dX4_isRainbow_18 rfl ?_
    refine rp_iload_n 1 dX4_isRainbow_19 rfl ?_
    refine rp_iconst (0 : Int32) dX4_isRainbow_20 (by decide) ?_
    refine rp_callVz [.int p1, .int (0 : Int32)] (SX4_hasWet (hn := hn) a0 p1 (0 : Int32) h0) cvX4_hasWet (mw (i := 1121) (by decide +kernel)) (by omega) h0 (by decide) rfl rfl rfl (Nat.le_of_ble_eq_true rfl) dX4_isRainbow_21 (fun x5 => ?_)
    refine rp_if_eq 40 dX4_isRainbow_24 (by decide) ?_ ?_
    · refine rp_iconst (0 : Int32) dX4_isRainbow_40 (by decide) ?_
      exact rp_sub [] rfl (rp_pu (hJ41 (0 : Int32)))
    · refine rp_aload_n 0 dX4_isRainbow_27 rfl ?_
      refine rp_iload_n 2 dX4_isRainbow_28 rfl ?_
      refine rp_iconst (1 : Int32) dX4_isRainbow_29 (by decide) ?_
      refine rp_callVz [.int p2, .int (1 : Int32)] (SX4_hasWet (hn := hn) a0 p2 (1 : Int32) h0) cvX4_hasWet (mw (i := 1121) (by decide +kernel)) (by omega) h0 (by decide) rfl rfl rfl (Nat.le_of_ble_eq_true rfl) dX4_isRainbow_30 (fun x6 => ?_)
      refine rp_if_eq 40 dX4_isRainbow_33 (by decide) ?_ ?_
      · refine rp_iconst (0 : Int32) dX4_isRainbow_40 (by decide) ?_
        exact rp_sub [] rfl (rp_pu (hJ41 (0 : Int32)))
      · refine rp_iconst (1 : Int32) dX4_isRainbow_36 (by decide) ?_
        refine rp_goto 41 dX4_isRainbow_37 (by decide) ?_
        exact rp_sub [] rfl (rp_pu (hJ41 (1 : Int32)))
  refine rp_if_eq 18 dX4_isRainbow_6 (by decide) ?_ ?_
  · exact rp_sub [0, 1, 2] rfl (hK18 ())
  · refine rp_aload_n 0 dX4_isRainbow_9 rfl ?_
    refine rp_iload_n 2 dX4_isRainbow_10 rfl ?_
    refine rp_iconst (0 : Int32) dX4_isRainbow_11 (by decide) ?_
    refine rp_callVz [.int p2, .int (0 : Int32)] (SX4_hasWet (hn := hn) a0 p2 (0 : Int32) h0) cvX4_hasWet (mw (i := 1121) (by decide +kernel)) (by omega) h0 (by decide) rfl rfl rfl (Nat.le_of_ble_eq_true rfl) dX4_isRainbow_12 (fun x3 => ?_)
    refine rp_if_ne 36 dX4_isRainbow_15 (by decide) ?_ ?_
    · refine rp_iconst (1 : Int32) dX4_isRainbow_36 (by decide) ?_
      refine rp_goto 41 dX4_isRainbow_37 (by decide) ?_
      exact rp_sub [] rfl (rp_pu (hJ41 (1 : Int32)))
    · exact rp_sub [0, 1, 2] rfl (hK18 ())

theorem dX4_draw_0 : decode cX4_draw 0 = .ok (.aload_n 0, 1) := by decide +kernel
theorem dX4_draw_1 : decode cX4_draw 1 = .ok (.aload_n 0, 1) := by decide +kernel
theorem dX4_draw_2 : decode cX4_draw 2 = .ok (.getfield 109, 3) := by decide +kernel
theorem dX4_draw_5 : decode cX4_draw 5 = .ok (.ldc2_w 113, 3) := by decide +kernel
theorem dX4_draw_8 : decode cX4_draw 8 = .ok (.lmul, 1) := by decide +kernel
theorem dX4_draw_9 : decode cX4_draw 9 = .ok (.ldc2_w 115, 3) := by decide +kernel
theorem dX4_draw_12 : decode cX4_draw 12 = .ok (.ladd, 1) := by decide +kernel
theorem dX4_draw_13 : decode cX4_draw 13 = .ok (.ldc2_w 117, 3) := by decide +kernel
theorem dX4_draw_16 : decode cX4_draw 16 = .ok (.lrem, 1) := by decide +kernel
theorem dX4_draw_17 : decode cX4_draw 17 = .ok (.putfield 109, 3) := by decide +kernel
theorem dX4_draw_20 : decode cX4_draw 20 = .ok (.iload_n 1, 1) := by decide +kernel
theorem dX4_draw_21 : decode cX4_draw 21 = .ok (.ifCond .le 18, 3) := by decide +kernel
theorem dX4_draw_24 : decode cX4_draw 24 = .ok (.aload_n 0, 1) := by decide +kernel
theorem dX4_draw_25 : decode cX4_draw 25 = .ok (.getfield 109, 3) := by decide +kernel
theorem dX4_draw_28 : decode cX4_draw 28 = .ok (.ldc2_w 119, 3) := by decide +kernel
theorem dX4_draw_31 : decode cX4_draw 31 = .ok (.ldiv, 1) := by decide +kernel
theorem dX4_draw_32 : decode cX4_draw 32 = .ok (.iload_n 1, 1) := by decide +kernel
theorem dX4_draw_33 : decode cX4_draw 33 = .ok (.i2l, 1) := by decide +kernel
theorem dX4_draw_34 : decode cX4_draw 34 = .ok (.lrem, 1) := by decide +kernel
theorem dX4_draw_35 : decode cX4_draw 35 = .ok (.l2i, 1) := by decide +kernel
theorem dX4_draw_36 : decode cX4_draw 36 = .ok (.goto 4, 3) := by decide +kernel
theorem dX4_draw_39 : decode cX4_draw 39 = .ok (.iconst 0, 1) := by decide +kernel
theorem dX4_draw_40 : decode cX4_draw 40 = .ok (.ireturn, 1) := by decide +kernel
noncomputable def FX4_draw (a0 : Nat) (p1 : Int32) : PP Int32 := bd (gL a0 6) (fun x1 => bd (gd (¬ (2147483648 : Int64) = 0)) (fun (_ : Unit) => bd (sL a0 6 (((x1 * (1103515245 : Int64)) + (12345 : Int64)) - ((x1 * (1103515245 : Int64)) + (12345 : Int64)) / (2147483648 : Int64) * (2147483648 : Int64))) (fun (_ : Unit) => bd (if p1 ≤ 0 then pu (0 : Int32) else bd (gL a0 6) (fun x2 => bd (gd (¬ (65536 : Int64) = 0)) (fun (_ : Unit) => bd (gd (¬ p1.toInt64 = 0)) (fun (_ : Unit) => pu (((x2 / (65536 : Int64)) - (x2 / (65536 : Int64)) / p1.toInt64 * p1.toInt64).toInt32)))) : PP (Int32)) (fun (v3 : Int32) => pu v3))))
set_option maxHeartbeats 4000000 in
set_option maxRecDepth 100000 in
theorem SX4_draw {l : Launch} {K : KK} {n : Nat} {hn : 270 ≤ n} (a0 : Nat) (p1 : Int32) (h0 : ob a0 4) : CT l K n 0 mX4_draw [.ref (K.2.1 + a0), .int p1] enI (FX4_draw a0 p1) := by
  refine CT.of2 (lv2 := [(0, .ref (K.2.1 + a0)), (1, .int p1)]) (by decide) rfl hn (Nat.le_of_ble_eq_true rfl) rfl (rp_id ?_)
  unfold FX4_draw
  refine rp_aload_n 0 dX4_draw_0 rfl ?_
  refine rp_aload_n 0 dX4_draw_1 rfl ?_
  refine rp_getL fi_X4_109 h0 rfl dX4_draw_2 (fun x1 => ?_)
  refine rp_ldc2 (v := 1103515245) (mw (i := 1165) (by decide +kernel)) dX4_draw_5 ?_
  refine rp_lmul dX4_draw_8 ?_
  refine rp_ldc2 (v := 12345) (mw (i := 1166) (by decide +kernel)) dX4_draw_9 ?_
  refine rp_ladd dX4_draw_12 ?_
  refine rp_ldc2 (v := 2147483648) (mw (i := 1167) (by decide +kernel)) dX4_draw_13 ?_
  refine rp_lrem dX4_draw_16 ?_
  refine rp_putL fi_X4_109 fp_X4_6 h0 rfl dX4_draw_17 ?_
  refine rp_iload_n 1 dX4_draw_20 rfl ?_
  refine rp_as ?_
  refine rp_join 40 (fun (v3 : Int32) => []) (fun v3 => [.int v3]) (fun v3 => ?_) (fun hJ40 => ?_)
  · exact rp_pu (rp_iret rfl dX4_draw_40)
  refine rp_if_le 39 dX4_draw_21 (by decide) ?_ ?_
  · refine rp_iconst (0 : Int32) dX4_draw_39 (by decide) ?_
    exact rp_sub [] rfl (rp_pu (hJ40 (0 : Int32)))
  · refine rp_aload_n 0 dX4_draw_24 rfl ?_
    refine rp_getL fi_X4_109 h0 rfl dX4_draw_25 (fun x2 => ?_)
    refine rp_ldc2 (v := 65536) (mw (i := 1168) (by decide +kernel)) dX4_draw_28 ?_
    refine rp_ldiv dX4_draw_31 ?_
    refine rp_iload_n 1 dX4_draw_32 rfl ?_
    refine rp_i2l dX4_draw_33 ?_
    refine rp_lrem dX4_draw_34 ?_
    refine rp_l2i dX4_draw_35 ?_
    refine rp_goto 40 dX4_draw_36 (by decide) ?_
    exact rp_sub [] rfl (rp_pu (hJ40 (((x2 / (65536 : Int64)) - (x2 / (65536 : Int64)) / p1.toInt64 * p1.toInt64).toInt32)))

theorem dX5_addBytes_0 : decode cX5_addBytes 0 = .ok (.bipush 56, 2) := by decide +kernel
theorem dX5_addBytes_2 : decode cX5_addBytes 2 = .ok (.istore_n 3, 1) := by decide +kernel
theorem dX5_addBytes_3 : decode cX5_addBytes 3 = .ok (.iload_n 3, 1) := by decide +kernel
theorem dX5_addBytes_4 : decode cX5_addBytes 4 = .ok (.ifCond .lt 74, 3) := by decide +kernel
theorem dX5_addBytes_7 : decode cX5_addBytes 7 = .ok (.lload_n 1, 1) := by decide +kernel
theorem dX5_addBytes_8 : decode cX5_addBytes 8 = .ok (.iload_n 3, 1) := by decide +kernel
theorem dX5_addBytes_9 : decode cX5_addBytes 9 = .ok (.lushr, 1) := by decide +kernel
theorem dX5_addBytes_10 : decode cX5_addBytes 10 = .ok (.l2i, 1) := by decide +kernel
theorem dX5_addBytes_11 : decode cX5_addBytes 11 = .ok (.sipush 255, 3) := by decide +kernel
theorem dX5_addBytes_14 : decode cX5_addBytes 14 = .ok (.iand, 1) := by decide +kernel
theorem dX5_addBytes_15 : decode cX5_addBytes 15 = .ok (.istore 4, 2) := by decide +kernel
theorem dX5_addBytes_17 : decode cX5_addBytes 17 = .ok (.iload 4, 2) := by decide +kernel
theorem dX5_addBytes_19 : decode cX5_addBytes 19 = .ok (.bipush 10, 2) := by decide +kernel
theorem dX5_addBytes_21 : decode cX5_addBytes 21 = .ok (.if_icmp .eq 17, 3) := by decide +kernel
theorem dX5_addBytes_24 : decode cX5_addBytes 24 = .ok (.iload 4, 2) := by decide +kernel
theorem dX5_addBytes_26 : decode cX5_addBytes 26 = .ok (.bipush 32, 2) := by decide +kernel
theorem dX5_addBytes_28 : decode cX5_addBytes 28 = .ok (.if_icmp .lt 44, 3) := by decide +kernel
theorem dX5_addBytes_31 : decode cX5_addBytes 31 = .ok (.iload 4, 2) := by decide +kernel
theorem dX5_addBytes_33 : decode cX5_addBytes 33 = .ok (.bipush 126, 2) := by decide +kernel
theorem dX5_addBytes_35 : decode cX5_addBytes 35 = .ok (.if_icmp .gt 37, 3) := by decide +kernel
theorem dX5_addBytes_38 : decode cX5_addBytes 38 = .ok (.aload_n 0, 1) := by decide +kernel
theorem dX5_addBytes_39 : decode cX5_addBytes 39 = .ok (.getfield 15, 3) := by decide +kernel
theorem dX5_addBytes_42 : decode cX5_addBytes 42 = .ok (.aload_n 0, 1) := by decide +kernel
theorem dX5_addBytes_43 : decode cX5_addBytes 43 = .ok (.getfield 9, 3) := by decide +kernel
theorem dX5_addBytes_46 : decode cX5_addBytes 46 = .ok (.arraylength, 1) := by decide +kernel
theorem dX5_addBytes_47 : decode cX5_addBytes 47 = .ok (.if_icmp .ge 25, 3) := by decide +kernel
theorem dX5_addBytes_50 : decode cX5_addBytes 50 = .ok (.aload_n 0, 1) := by decide +kernel
theorem dX5_addBytes_51 : decode cX5_addBytes 51 = .ok (.getfield 9, 3) := by decide +kernel
theorem dX5_addBytes_54 : decode cX5_addBytes 54 = .ok (.aload_n 0, 1) := by decide +kernel
theorem dX5_addBytes_55 : decode cX5_addBytes 55 = .ok (.getfield 15, 3) := by decide +kernel
theorem dX5_addBytes_58 : decode cX5_addBytes 58 = .ok (.iload 4, 2) := by decide +kernel
theorem dX5_addBytes_60 : decode cX5_addBytes 60 = .ok (.i2c, 1) := by decide +kernel
theorem dX5_addBytes_61 : decode cX5_addBytes 61 = .ok (.castore, 1) := by decide +kernel
theorem dX5_addBytes_62 : decode cX5_addBytes 62 = .ok (.aload_n 0, 1) := by decide +kernel
theorem dX5_addBytes_63 : decode cX5_addBytes 63 = .ok (.dup, 1) := by decide +kernel
theorem dX5_addBytes_64 : decode cX5_addBytes 64 = .ok (.getfield 15, 3) := by decide +kernel
theorem dX5_addBytes_67 : decode cX5_addBytes 67 = .ok (.iconst 1, 1) := by decide +kernel
theorem dX5_addBytes_68 : decode cX5_addBytes 68 = .ok (.iadd, 1) := by decide +kernel
theorem dX5_addBytes_69 : decode cX5_addBytes 69 = .ok (.putfield 15, 3) := by decide +kernel
theorem dX5_addBytes_72 : decode cX5_addBytes 72 = .ok (.iinc 3 (-8), 3) := by decide +kernel
theorem dX5_addBytes_75 : decode cX5_addBytes 75 = .ok (.goto (-72), 3) := by decide +kernel
theorem dX5_addBytes_78 : decode cX5_addBytes 78 = .ok (.return_, 1) := by decide +kernel
noncomputable def FX5_addBytes (a0 : Nat) (p1 : Int64) : PP Unit := bd (it (fun (s1 : Int32) => (if s1 < 0 then pu (Sum.inr ()) else lt ((((p1.toUInt64 >>> (s1.toInt64.toUInt64 &&& Int64.toUInt64 63)).toInt64).toInt32) &&& (255 : Int32)) (fun y2 => bd (jn (fun (v4 : Unit) => bd (gI a0 1) (fun x5 => if (1000 : Int32) ≤ x5 then pu () else bd (gI a0 1) (fun x6 => bd (uI (rf a0 0) 1000 x6 ((y2.toUInt32 % 65536).toInt32)) (fun (_ : Unit) => bd (gI a0 1) (fun x7 => bd (sI a0 1 (x7 + (1 : Int32))) (fun (_ : Unit) => pu ())))))) (fun j3 => if y2 = (10 : Int32) then j3 () else if y2 < (32 : Int32) then pu () else if (126 : Int32) < y2 then pu () else j3 ()) : PP (Unit)) (fun (v8 : Unit) => lt (s1 + (-8 : Int32)) (fun y9 => pu (Sum.inl y9)))) : PP ((Int32) ⊕ (Unit)))) FU (56 : Int32)) (fun (v10 : Unit) => pu ())
set_option maxHeartbeats 4000000 in
set_option maxRecDepth 100000 in
theorem SX5_addBytes {l : Launch} {K : KK} {n : Nat} {hn : 270 ≤ n} (a0 : Nat) (p1 : Int64) (h0 : ob a0 5) : CT l K n 0 mX5_addBytes [.ref (K.2.1 + a0), .long p1] enU (FX5_addBytes a0 p1) := by
  refine CT.of2 (lv2 := [(0, .ref (K.2.1 + a0)), (1, .long p1)]) (by decide) rfl hn (Nat.le_of_ble_eq_true rfl) rfl (rp_id ?_)
  unfold FX5_addBytes
  refine rp_bipush (56 : Int32) dX5_addBytes_0 (by decide) ?_
  refine rp_istore_n [(3, .int (56 : Int32)), (0, .ref (K.2.1 + a0)), (1, .long p1)] dX5_addBytes_2 (by decide) rfl ?_
  refine rp_as ?_
  refine rp_join 78 (fun v10 => []) (fun _ => []) (fun v10 => ?_) (fun hX3_0 => ?_)
  · exact rp_pu (rp_vret rfl dX5_addBytes_78)
  refine rp_sub [1, 2, 0] rfl (rp_it (fun (s1 : Int32) => [(0, .ref (K.2.1 + a0)), (1, .long p1), (3, .int s1)]) (fun N3 ih3 s1 => ?_) FU (56 : Int32))
  refine rp_iload_n 2 dX5_addBytes_3 rfl ?_
  refine rp_if_lt 78 dX5_addBytes_4 (by decide) ?_ ?_
  · exact rp_sub [] rfl (rp_puR (hX3_0 ()))
  · refine rp_lload_n 1 dX5_addBytes_7 rfl ?_
    refine rp_iload_n 2 dX5_addBytes_8 rfl ?_
    refine rp_lushr dX5_addBytes_9 ?_
    refine rp_l2i dX5_addBytes_10 ?_
    refine rp_sipush (255 : Int32) dX5_addBytes_11 (by decide) ?_
    refine rp_iand dX5_addBytes_14 ?_
    refine rp_lti (fun y2 => ?_)
    refine rp_istore [(4, .int y2), (0, .ref (K.2.1 + a0)), (1, .long p1), (3, .int s1)] dX5_addBytes_15 (by decide) rfl ?_
    refine rp_iload 0 dX5_addBytes_17 rfl ?_
    refine rp_bipush (10 : Int32) dX5_addBytes_19 (by decide) ?_
    refine rp_as ?_
    refine rp_join 72 (fun (v8 : Unit) => [(0, .ref (K.2.1 + a0)), (1, .long p1), (3, .int s1)]) (fun v8 => []) (fun v8 => ?_) (fun hJ72 => ?_)
    · refine rp_iinc (fun y9 => [(3, .int y9), (0, .ref (K.2.1 + a0)), (1, .long p1)]) 2 dX5_addBytes_72 rfl (by rfl) (by decide) (fun y9 => rfl) (fun y9 => ?_)
      refine rp_goto 3 dX5_addBytes_75 (by decide) ?_
      exact rp_sub [1, 2, 0] rfl (ih3 y9)
    refine rp_jn2 38 (fun (v4 : Unit) => [(0, .ref (K.2.1 + a0)), (1, .long p1), (3, .int s1), (4, .int y2)]) (fun v4 => []) (fun v4 => ?_) (fun hK38 => ?_)
    · refine rp_aload_n 0 dX5_addBytes_38 rfl ?_
      refine rp_getI fi_X5_15 h0 rfl dX5_addBytes_39 (fun x5 => ?_)
      refine rp_aload_n 0 dX5_addBytes_42 rfl ?_
      refine rp_getR fi_X5_9 h0 rfl dX5_addBytes_43 ?_
      refine rp_alen (v := (1000 : Int32)) (tX5_0 h0) rfl rfl dX5_addBytes_46 ?_
      refine rp_icmp_ge 72 dX5_addBytes_47 (by decide) ?_ ?_
      · exact rp_sub [0, 1, 2] rfl (rp_pu (hJ72 ()))
      · refine rp_aload_n 0 dX5_addBytes_50 rfl ?_
        refine rp_getR fi_X5_9 h0 rfl dX5_addBytes_51 ?_
        refine rp_aload_n 0 dX5_addBytes_54 rfl ?_
        refine rp_getI fi_X5_15 h0 rfl dX5_addBytes_55 (fun x6 => ?_)
        refine rp_iload 3 dX5_addBytes_58 rfl ?_
        refine rp_i2c dX5_addBytes_60 ?_
        refine rp_cast (tX5_0 h0) (pk_vc _) dX5_addBytes_61 ?_
        refine rp_aload_n 0 dX5_addBytes_62 rfl ?_
        refine rp_dup dX5_addBytes_63 rfl ?_
        refine rp_getI fi_X5_15 h0 rfl dX5_addBytes_64 (fun x7 => ?_)
        refine rp_iconst (1 : Int32) dX5_addBytes_67 (by decide) ?_
        refine rp_iadd dX5_addBytes_68 ?_
        refine rp_putI fi_X5_15 fp_X5_1 h0 rfl dX5_addBytes_69 ?_
        exact rp_sub [0, 1, 2] rfl (rp_pu (hJ72 ()))
    refine rp_icmp_eq 38 dX5_addBytes_21 (by decide) ?_ ?_
    · exact rp_sub [1, 2, 3, 0] rfl (hK38 ())
    · refine rp_iload 0 dX5_addBytes_24 rfl ?_
      refine rp_bipush (32 : Int32) dX5_addBytes_26 (by decide) ?_
      refine rp_icmp_lt 72 dX5_addBytes_28 (by decide) ?_ ?_
      · exact rp_sub [1, 2, 3] rfl (rp_pu (hJ72 ()))
      · refine rp_iload 0 dX5_addBytes_31 rfl ?_
        refine rp_bipush (126 : Int32) dX5_addBytes_33 (by decide) ?_
        refine rp_icmp_gt 72 dX5_addBytes_35 (by decide) ?_ ?_
        · exact rp_sub [1, 2, 3] rfl (rp_pu (hJ72 ()))
        · exact rp_sub [1, 2, 3, 0] rfl (hK38 ())

theorem dX5_endReading_0 : decode cX5_endReading 0 = .ok (.aload_n 0, 1) := by decide +kernel
theorem dX5_endReading_1 : decode cX5_endReading 1 = .ok (.iconst 0, 1) := by decide +kernel
theorem dX5_endReading_2 : decode cX5_endReading 2 = .ok (.putfield 15, 3) := by decide +kernel
theorem dX5_endReading_5 : decode cX5_endReading 5 = .ok (.aload_n 0, 1) := by decide +kernel
theorem dX5_endReading_6 : decode cX5_endReading 6 = .ok (.getfield 19, 3) := by decide +kernel
theorem dX5_endReading_9 : decode cX5_endReading 9 = .ok (.ireturn, 1) := by decide +kernel
noncomputable def FX5_endReading (a0 : Nat) : PP Int32 := bd (sI a0 1 (0 : Int32)) (fun (_ : Unit) => bd (gI a0 6) (fun x1 => pu x1))
set_option maxHeartbeats 4000000 in
set_option maxRecDepth 100000 in
theorem SX5_endReading {l : Launch} {K : KK} {n : Nat} {hn : 270 ≤ n} (a0 : Nat) (h0 : ob a0 5) : CT l K n 0 mX5_endReading [.ref (K.2.1 + a0)] enI (FX5_endReading a0) := by
  refine CT.of2 (lv2 := [(0, .ref (K.2.1 + a0))]) (by decide) rfl hn (Nat.le_of_ble_eq_true rfl) rfl (rp_id ?_)
  unfold FX5_endReading
  refine rp_aload_n 0 dX5_endReading_0 rfl ?_
  refine rp_iconst (0 : Int32) dX5_endReading_1 (by decide) ?_
  refine rp_putI fi_X5_15 fp_X5_1 h0 rfl dX5_endReading_2 ?_
  refine rp_aload_n 0 dX5_endReading_5 rfl ?_
  refine rp_getI fi_X5_19 h0 rfl dX5_endReading_6 (fun x1 => ?_)
  exact rp_pu (rp_iret rfl dX5_endReading_9)

theorem dX5_isBlank_0 : decode cX5_isBlank 0 = .ok (.iload_n 0, 1) := by decide +kernel
theorem dX5_isBlank_1 : decode cX5_isBlank 1 = .ok (.bipush 10, 2) := by decide +kernel
theorem dX5_isBlank_3 : decode cX5_isBlank 3 = .ok (.if_icmp .eq 9, 3) := by decide +kernel
theorem dX5_isBlank_6 : decode cX5_isBlank 6 = .ok (.iload_n 0, 1) := by decide +kernel
theorem dX5_isBlank_7 : decode cX5_isBlank 7 = .ok (.bipush 32, 2) := by decide +kernel
theorem dX5_isBlank_9 : decode cX5_isBlank 9 = .ok (.if_icmp .ne 7, 3) := by decide +kernel
theorem dX5_isBlank_12 : decode cX5_isBlank 12 = .ok (.iconst 1, 1) := by decide +kernel
theorem dX5_isBlank_13 : decode cX5_isBlank 13 = .ok (.goto 4, 3) := by decide +kernel
theorem dX5_isBlank_16 : decode cX5_isBlank 16 = .ok (.iconst 0, 1) := by decide +kernel
theorem dX5_isBlank_17 : decode cX5_isBlank 17 = .ok (.ireturn, 1) := by decide +kernel
noncomputable def FX5_isBlank (p1 : Int32) : PP Bool := bd (if p1 = (10 : Int32) then pu (1 : Int32) else if p1 = (32 : Int32) then pu (1 : Int32) else pu (0 : Int32) : PP (Int32)) (fun (v1 : Int32) => zb v1)
set_option maxHeartbeats 4000000 in
set_option maxRecDepth 100000 in
theorem SX5_isBlank {l : Launch} {K : KK} {n : Nat} {hn : 270 ≤ n} (p1 : Int32) : CT l K n 0 mX5_isBlank [.int p1] enZ (FX5_isBlank p1) := by
  refine CT.of2 (lv2 := [(0, .int p1)]) (by decide) rfl hn (Nat.le_of_ble_eq_true rfl) rfl (rp_id ?_)
  unfold FX5_isBlank
  refine rp_iload_n 0 dX5_isBlank_0 rfl ?_
  refine rp_bipush (10 : Int32) dX5_isBlank_1 (by decide) ?_
  refine rp_as ?_
  refine rp_join 17 (fun (v1 : Int32) => []) (fun v1 => [.int v1]) (fun v1 => ?_) (fun hJ17 => ?_)
  · exact rp_zretb rfl dX5_isBlank_17
  refine rp_icmp_eq 12 dX5_isBlank_3 (by decide) ?_ ?_
  · refine rp_iconst (1 : Int32) dX5_isBlank_12 (by decide) ?_
    refine rp_goto 17 dX5_isBlank_13 (by decide) ?_
    exact rp_sub [] rfl (rp_pu (hJ17 (1 : Int32)))
  · refine rp_iload_n 0 dX5_isBlank_6 rfl ?_
    refine rp_bipush (32 : Int32) dX5_isBlank_7 (by decide) ?_
    refine rp_icmp_ne 16 dX5_isBlank_9 (by decide) ?_ ?_
    · refine rp_iconst (0 : Int32) dX5_isBlank_16 (by decide) ?_
      exact rp_sub [] rfl (rp_pu (hJ17 (0 : Int32)))
    · refine rp_iconst (1 : Int32) dX5_isBlank_12 (by decide) ?_
      refine rp_goto 17 dX5_isBlank_13 (by decide) ?_
      exact rp_sub [] rfl (rp_pu (hJ17 (1 : Int32)))

theorem dX5_isLetter_0 : decode cX5_isLetter 0 = .ok (.iload_n 0, 1) := by decide +kernel
theorem dX5_isLetter_1 : decode cX5_isLetter 1 = .ok (.bipush 97, 2) := by decide +kernel
theorem dX5_isLetter_3 : decode cX5_isLetter 3 = .ok (.if_icmp .lt 13, 3) := by decide +kernel
theorem dX5_isLetter_6 : decode cX5_isLetter 6 = .ok (.iload_n 0, 1) := by decide +kernel
theorem dX5_isLetter_7 : decode cX5_isLetter 7 = .ok (.bipush 122, 2) := by decide +kernel
theorem dX5_isLetter_9 : decode cX5_isLetter 9 = .ok (.if_icmp .gt 7, 3) := by decide +kernel
theorem dX5_isLetter_12 : decode cX5_isLetter 12 = .ok (.iconst 1, 1) := by decide +kernel
theorem dX5_isLetter_13 : decode cX5_isLetter 13 = .ok (.goto 4, 3) := by decide +kernel
theorem dX5_isLetter_16 : decode cX5_isLetter 16 = .ok (.iconst 0, 1) := by decide +kernel
theorem dX5_isLetter_17 : decode cX5_isLetter 17 = .ok (.ireturn, 1) := by decide +kernel
noncomputable def FX5_isLetter (p1 : Int32) : PP Bool := bd (if p1 < (97 : Int32) then pu (0 : Int32) else if (122 : Int32) < p1 then pu (0 : Int32) else pu (1 : Int32) : PP (Int32)) (fun (v1 : Int32) => zb v1)
set_option maxHeartbeats 4000000 in
set_option maxRecDepth 100000 in
theorem SX5_isLetter {l : Launch} {K : KK} {n : Nat} {hn : 270 ≤ n} (p1 : Int32) : CT l K n 0 mX5_isLetter [.int p1] enZ (FX5_isLetter p1) := by
  refine CT.of2 (lv2 := [(0, .int p1)]) (by decide) rfl hn (Nat.le_of_ble_eq_true rfl) rfl (rp_id ?_)
  unfold FX5_isLetter
  refine rp_iload_n 0 dX5_isLetter_0 rfl ?_
  refine rp_bipush (97 : Int32) dX5_isLetter_1 (by decide) ?_
  refine rp_as ?_
  refine rp_join 17 (fun (v1 : Int32) => []) (fun v1 => [.int v1]) (fun v1 => ?_) (fun hJ17 => ?_)
  · exact rp_zretb rfl dX5_isLetter_17
  refine rp_icmp_lt 16 dX5_isLetter_3 (by decide) ?_ ?_
  · refine rp_iconst (0 : Int32) dX5_isLetter_16 (by decide) ?_
    exact rp_sub [] rfl (rp_pu (hJ17 (0 : Int32)))
  · refine rp_iload_n 0 dX5_isLetter_6 rfl ?_
    refine rp_bipush (122 : Int32) dX5_isLetter_7 (by decide) ?_
    refine rp_icmp_gt 16 dX5_isLetter_9 (by decide) ?_ ?_
    · refine rp_iconst (0 : Int32) dX5_isLetter_16 (by decide) ?_
      exact rp_sub [] rfl (rp_pu (hJ17 (0 : Int32)))
    · refine rp_iconst (1 : Int32) dX5_isLetter_12 (by decide) ?_
      refine rp_goto 17 dX5_isLetter_13 (by decide) ?_
      exact rp_sub [] rfl (rp_pu (hJ17 (1 : Int32)))

theorem dX5_isDigit_0 : decode cX5_isDigit 0 = .ok (.iload_n 0, 1) := by decide +kernel
theorem dX5_isDigit_1 : decode cX5_isDigit 1 = .ok (.bipush 48, 2) := by decide +kernel
theorem dX5_isDigit_3 : decode cX5_isDigit 3 = .ok (.if_icmp .lt 13, 3) := by decide +kernel
theorem dX5_isDigit_6 : decode cX5_isDigit 6 = .ok (.iload_n 0, 1) := by decide +kernel
theorem dX5_isDigit_7 : decode cX5_isDigit 7 = .ok (.bipush 57, 2) := by decide +kernel
theorem dX5_isDigit_9 : decode cX5_isDigit 9 = .ok (.if_icmp .gt 7, 3) := by decide +kernel
theorem dX5_isDigit_12 : decode cX5_isDigit 12 = .ok (.iconst 1, 1) := by decide +kernel
theorem dX5_isDigit_13 : decode cX5_isDigit 13 = .ok (.goto 4, 3) := by decide +kernel
theorem dX5_isDigit_16 : decode cX5_isDigit 16 = .ok (.iconst 0, 1) := by decide +kernel
theorem dX5_isDigit_17 : decode cX5_isDigit 17 = .ok (.ireturn, 1) := by decide +kernel
noncomputable def FX5_isDigit (p1 : Int32) : PP Bool := bd (if p1 < (48 : Int32) then pu (0 : Int32) else if (57 : Int32) < p1 then pu (0 : Int32) else pu (1 : Int32) : PP (Int32)) (fun (v1 : Int32) => zb v1)
set_option maxHeartbeats 4000000 in
set_option maxRecDepth 100000 in
theorem SX5_isDigit {l : Launch} {K : KK} {n : Nat} {hn : 270 ≤ n} (p1 : Int32) : CT l K n 0 mX5_isDigit [.int p1] enZ (FX5_isDigit p1) := by
  refine CT.of2 (lv2 := [(0, .int p1)]) (by decide) rfl hn (Nat.le_of_ble_eq_true rfl) rfl (rp_id ?_)
  unfold FX5_isDigit
  refine rp_iload_n 0 dX5_isDigit_0 rfl ?_
  refine rp_bipush (48 : Int32) dX5_isDigit_1 (by decide) ?_
  refine rp_as ?_
  refine rp_join 17 (fun (v1 : Int32) => []) (fun v1 => [.int v1]) (fun v1 => ?_) (fun hJ17 => ?_)
  · exact rp_zretb rfl dX5_isDigit_17
  refine rp_icmp_lt 16 dX5_isDigit_3 (by decide) ?_ ?_
  · refine rp_iconst (0 : Int32) dX5_isDigit_16 (by decide) ?_
    exact rp_sub [] rfl (rp_pu (hJ17 (0 : Int32)))
  · refine rp_iload_n 0 dX5_isDigit_6 rfl ?_
    refine rp_bipush (57 : Int32) dX5_isDigit_7 (by decide) ?_
    refine rp_icmp_gt 16 dX5_isDigit_9 (by decide) ?_ ?_
    · refine rp_iconst (0 : Int32) dX5_isDigit_16 (by decide) ?_
      exact rp_sub [] rfl (rp_pu (hJ17 (0 : Int32)))
    · refine rp_iconst (1 : Int32) dX5_isDigit_12 (by decide) ?_
      refine rp_goto 17 dX5_isDigit_13 (by decide) ?_
      exact rp_sub [] rfl (rp_pu (hJ17 (1 : Int32)))

theorem dX5_readDigits_0 : decode cX5_readDigits 0 = .ok (.aload_n 0, 1) := by decide +kernel
theorem dX5_readDigits_1 : decode cX5_readDigits 1 = .ok (.getfield 22, 3) := by decide +kernel
theorem dX5_readDigits_4 : decode cX5_readDigits 4 = .ok (.aload_n 0, 1) := by decide +kernel
theorem dX5_readDigits_5 : decode cX5_readDigits 5 = .ok (.getfield 15, 3) := by decide +kernel
theorem dX5_readDigits_8 : decode cX5_readDigits 8 = .ok (.if_icmp .ge 55, 3) := by decide +kernel
theorem dX5_readDigits_11 : decode cX5_readDigits 11 = .ok (.aload_n 0, 1) := by decide +kernel
theorem dX5_readDigits_12 : decode cX5_readDigits 12 = .ok (.getfield 9, 3) := by decide +kernel
theorem dX5_readDigits_15 : decode cX5_readDigits 15 = .ok (.aload_n 0, 1) := by decide +kernel
theorem dX5_readDigits_16 : decode cX5_readDigits 16 = .ok (.getfield 22, 3) := by decide +kernel
theorem dX5_readDigits_19 : decode cX5_readDigits 19 = .ok (.caload, 1) := by decide +kernel
theorem dX5_readDigits_20 : decode cX5_readDigits 20 = .ok (.invokestatic 55, 3) := by decide +kernel
theorem dX5_readDigits_23 : decode cX5_readDigits 23 = .ok (.ifCond .eq 40, 3) := by decide +kernel
theorem dX5_readDigits_26 : decode cX5_readDigits 26 = .ok (.aload_n 0, 1) := by decide +kernel
theorem dX5_readDigits_27 : decode cX5_readDigits 27 = .ok (.aload_n 0, 1) := by decide +kernel
theorem dX5_readDigits_28 : decode cX5_readDigits 28 = .ok (.getfield 36, 3) := by decide +kernel
theorem dX5_readDigits_31 : decode cX5_readDigits 31 = .ok (.bipush 10, 2) := by decide +kernel
theorem dX5_readDigits_33 : decode cX5_readDigits 33 = .ok (.imul, 1) := by decide +kernel
theorem dX5_readDigits_34 : decode cX5_readDigits 34 = .ok (.aload_n 0, 1) := by decide +kernel
theorem dX5_readDigits_35 : decode cX5_readDigits 35 = .ok (.getfield 9, 3) := by decide +kernel
theorem dX5_readDigits_38 : decode cX5_readDigits 38 = .ok (.aload_n 0, 1) := by decide +kernel
theorem dX5_readDigits_39 : decode cX5_readDigits 39 = .ok (.getfield 22, 3) := by decide +kernel
theorem dX5_readDigits_42 : decode cX5_readDigits 42 = .ok (.caload, 1) := by decide +kernel
theorem dX5_readDigits_43 : decode cX5_readDigits 43 = .ok (.bipush 48, 2) := by decide +kernel
theorem dX5_readDigits_45 : decode cX5_readDigits 45 = .ok (.isub, 1) := by decide +kernel
theorem dX5_readDigits_46 : decode cX5_readDigits 46 = .ok (.iadd, 1) := by decide +kernel
theorem dX5_readDigits_47 : decode cX5_readDigits 47 = .ok (.putfield 36, 3) := by decide +kernel
theorem dX5_readDigits_50 : decode cX5_readDigits 50 = .ok (.aload_n 0, 1) := by decide +kernel
theorem dX5_readDigits_51 : decode cX5_readDigits 51 = .ok (.dup, 1) := by decide +kernel
theorem dX5_readDigits_52 : decode cX5_readDigits 52 = .ok (.getfield 22, 3) := by decide +kernel
theorem dX5_readDigits_55 : decode cX5_readDigits 55 = .ok (.iconst 1, 1) := by decide +kernel
theorem dX5_readDigits_56 : decode cX5_readDigits 56 = .ok (.iadd, 1) := by decide +kernel
theorem dX5_readDigits_57 : decode cX5_readDigits 57 = .ok (.putfield 22, 3) := by decide +kernel
theorem dX5_readDigits_60 : decode cX5_readDigits 60 = .ok (.goto (-60), 3) := by decide +kernel
theorem dX5_readDigits_63 : decode cX5_readDigits 63 = .ok (.aload_n 0, 1) := by decide +kernel
theorem dX5_readDigits_64 : decode cX5_readDigits 64 = .ok (.aload_n 0, 1) := by decide +kernel
theorem dX5_readDigits_65 : decode cX5_readDigits 65 = .ok (.getfield 22, 3) := by decide +kernel
theorem dX5_readDigits_68 : decode cX5_readDigits 68 = .ok (.aload_n 0, 1) := by decide +kernel
theorem dX5_readDigits_69 : decode cX5_readDigits 69 = .ok (.getfield 43, 3) := by decide +kernel
theorem dX5_readDigits_72 : decode cX5_readDigits 72 = .ok (.isub, 1) := by decide +kernel
theorem dX5_readDigits_73 : decode cX5_readDigits 73 = .ok (.iconst 4, 1) := by decide +kernel
theorem dX5_readDigits_74 : decode cX5_readDigits 74 = .ok (.if_icmp .le 7, 3) := by decide +kernel
theorem dX5_readDigits_77 : decode cX5_readDigits 77 = .ok (.iconst 1, 1) := by decide +kernel
theorem dX5_readDigits_78 : decode cX5_readDigits 78 = .ok (.goto 4, 3) := by decide +kernel
theorem dX5_readDigits_81 : decode cX5_readDigits 81 = .ok (.iconst 3, 1) := by decide +kernel
theorem dX5_readDigits_82 : decode cX5_readDigits 82 = .ok (.putfield 46, 3) := by decide +kernel
theorem dX5_readDigits_85 : decode cX5_readDigits 85 = .ok (.return_, 1) := by decide +kernel
noncomputable def FX5_readDigits (a0 : Nat) : PP Unit := bd (it (fun (s1 : Unit) => (bd (gI a0 8) (fun x2 => bd (gI a0 1) (fun x3 => if x3 ≤ x2 then pu (Sum.inr ()) else bd (gI a0 8) (fun x4 => bd (aI (rf a0 0) 1000 x4) (fun x5 => bd (FX5_isDigit x5) (fun x6 => if ((b2i x6)) = 0 then pu (Sum.inr ()) else bd (gI a0 5) (fun x7 => bd (gI a0 8) (fun x8 => bd (aI (rf a0 0) 1000 x8) (fun x9 => bd (sI a0 5 ((x7 * (10 : Int32)) + (x9 - (48 : Int32)))) (fun (_ : Unit) => bd (gI a0 8) (fun x10 => bd (sI a0 8 (x10 + (1 : Int32))) (fun (_ : Unit) => pu (Sum.inl ())))))))))))) : PP ((Unit) ⊕ (Unit)))) FU ()) (fun (v11 : Unit) => bd (gI a0 8) (fun x12 => bd (gI a0 7) (fun x13 => bd (if (x12 - x13) ≤ (4 : Int32) then pu (3 : Int32) else pu (1 : Int32) : PP (Int32)) (fun (v14 : Int32) => bd (sI a0 2 v14) (fun (_ : Unit) => pu ())))))
set_option maxHeartbeats 4000000 in
set_option maxRecDepth 100000 in
theorem SX5_readDigits {l : Launch} {K : KK} {n : Nat} {hn : 270 ≤ n} (a0 : Nat) (h0 : ob a0 5) : CT l K n 1 mX5_readDigits [.ref (K.2.1 + a0)] enU (FX5_readDigits a0) := by
  refine CT.of2 (lv2 := [(0, .ref (K.2.1 + a0))]) (by decide) rfl hn (Nat.le_of_ble_eq_true rfl) rfl (rp_id ?_)
  unfold FX5_readDigits
  refine rp_as ?_
  refine rp_join 63 (fun v11 => [(0, .ref (K.2.1 + a0))]) (fun _ => []) (fun v11 => ?_) (fun hX0_0 => ?_)
  · refine rp_aload_n 0 dX5_readDigits_63 rfl ?_
    refine rp_aload_n 0 dX5_readDigits_64 rfl ?_
    refine rp_getI fi_X5_22 h0 rfl dX5_readDigits_65 (fun x12 => ?_)
    refine rp_aload_n 0 dX5_readDigits_68 rfl ?_
    refine rp_getI fi_X5_43 h0 rfl dX5_readDigits_69 (fun x13 => ?_)
    refine rp_isub dX5_readDigits_72 ?_
    refine rp_iconst (4 : Int32) dX5_readDigits_73 (by decide) ?_
    refine rp_as ?_
    refine rp_join 82 (fun (v14 : Int32) => []) (fun v14 => [.int v14, .ref (K.2.1 + a0)]) (fun v14 => ?_) (fun hJ82 => ?_)
    · refine rp_putI fi_X5_46 fp_X5_2 h0 rfl dX5_readDigits_82 ?_
      exact rp_pu (rp_vret rfl dX5_readDigits_85)
    refine rp_icmp_le 81 dX5_readDigits_74 (by decide) ?_ ?_
    · refine rp_iconst (3 : Int32) dX5_readDigits_81 (by decide) ?_
      exact rp_sub [] rfl (rp_pu (hJ82 (3 : Int32)))
    · refine rp_iconst (1 : Int32) dX5_readDigits_77 (by decide) ?_
      refine rp_goto 82 dX5_readDigits_78 (by decide) ?_
      exact rp_sub [] rfl (rp_pu (hJ82 (1 : Int32)))
  refine rp_sub [0] rfl (rp_it (fun (s1 : Unit) => [(0, .ref (K.2.1 + a0))]) (fun N0 ih0 s1 => ?_) FU ())
  refine rp_aload_n 0 dX5_readDigits_0 rfl ?_
  refine rp_getI fi_X5_22 h0 rfl dX5_readDigits_1 (fun x2 => ?_)
  refine rp_aload_n 0 dX5_readDigits_4 rfl ?_
  refine rp_getI fi_X5_15 h0 rfl dX5_readDigits_5 (fun x3 => ?_)
  refine rp_icmp_ge 63 dX5_readDigits_8 (by decide) ?_ ?_
  · exact rp_sub [0] rfl (rp_puR (hX0_0 ()))
  · refine rp_aload_n 0 dX5_readDigits_11 rfl ?_
    refine rp_getR fi_X5_9 h0 rfl dX5_readDigits_12 ?_
    refine rp_aload_n 0 dX5_readDigits_15 rfl ?_
    refine rp_getI fi_X5_22 h0 rfl dX5_readDigits_16 (fun x4 => ?_)
    refine rp_cald (tX5_0 h0) dX5_readDigits_19 (fun x5 => ?_)
    refine rp_callSz [.int x5] (SX5_isDigit (hn := hn) x5) csX5_isDigit (mw (i := 511) (by decide +kernel)) (by omega) rfl rfl (Nat.le_of_ble_eq_true rfl) dX5_readDigits_20 (fun x6 => ?_)
    refine rp_if_eq 63 dX5_readDigits_23 (by decide) ?_ ?_
    · exact rp_sub [0] rfl (rp_puR (hX0_0 ()))
    · refine rp_aload_n 0 dX5_readDigits_26 rfl ?_
      refine rp_aload_n 0 dX5_readDigits_27 rfl ?_
      refine rp_getI fi_X5_36 h0 rfl dX5_readDigits_28 (fun x7 => ?_)
      refine rp_bipush (10 : Int32) dX5_readDigits_31 (by decide) ?_
      refine rp_imul dX5_readDigits_33 ?_
      refine rp_aload_n 0 dX5_readDigits_34 rfl ?_
      refine rp_getR fi_X5_9 h0 rfl dX5_readDigits_35 ?_
      refine rp_aload_n 0 dX5_readDigits_38 rfl ?_
      refine rp_getI fi_X5_22 h0 rfl dX5_readDigits_39 (fun x8 => ?_)
      refine rp_cald (tX5_0 h0) dX5_readDigits_42 (fun x9 => ?_)
      refine rp_bipush (48 : Int32) dX5_readDigits_43 (by decide) ?_
      refine rp_isub dX5_readDigits_45 ?_
      refine rp_iadd dX5_readDigits_46 ?_
      refine rp_putI fi_X5_36 fp_X5_5 h0 rfl dX5_readDigits_47 ?_
      refine rp_aload_n 0 dX5_readDigits_50 rfl ?_
      refine rp_dup dX5_readDigits_51 rfl ?_
      refine rp_getI fi_X5_22 h0 rfl dX5_readDigits_52 (fun x10 => ?_)
      refine rp_iconst (1 : Int32) dX5_readDigits_55 (by decide) ?_
      refine rp_iadd dX5_readDigits_56 ?_
      refine rp_putI fi_X5_22 fp_X5_8 h0 rfl dX5_readDigits_57 ?_
      refine rp_goto 0 dX5_readDigits_60 (by decide) ?_
      exact rp_sub [0] rfl (ih0 ())

theorem dX5_fail_0 : decode cX5_fail 0 = .ok (.aload_n 0, 1) := by decide +kernel
theorem dX5_fail_1 : decode cX5_fail 1 = .ok (.getfield 19, 3) := by decide +kernel
theorem dX5_fail_4 : decode cX5_fail 4 = .ok (.ifCond .ne 16, 3) := by decide +kernel
theorem dX5_fail_7 : decode cX5_fail 7 = .ok (.aload_n 0, 1) := by decide +kernel
theorem dX5_fail_8 : decode cX5_fail 8 = .ok (.iload_n 1, 1) := by decide +kernel
theorem dX5_fail_9 : decode cX5_fail 9 = .ok (.bipush 16, 2) := by decide +kernel
theorem dX5_fail_11 : decode cX5_fail 11 = .ok (.aload_n 0, 1) := by decide +kernel
theorem dX5_fail_12 : decode cX5_fail 12 = .ok (.getfield 43, 3) := by decide +kernel
theorem dX5_fail_15 : decode cX5_fail 15 = .ok (.imul, 1) := by decide +kernel
theorem dX5_fail_16 : decode cX5_fail 16 = .ok (.iadd, 1) := by decide +kernel
theorem dX5_fail_17 : decode cX5_fail 17 = .ok (.putfield 19, 3) := by decide +kernel
theorem dX5_fail_20 : decode cX5_fail 20 = .ok (.aload_n 0, 1) := by decide +kernel
theorem dX5_fail_21 : decode cX5_fail 21 = .ok (.iconst 0, 1) := by decide +kernel
theorem dX5_fail_22 : decode cX5_fail 22 = .ok (.putfield 46, 3) := by decide +kernel
theorem dX5_fail_25 : decode cX5_fail 25 = .ok (.aload_n 0, 1) := by decide +kernel
theorem dX5_fail_26 : decode cX5_fail 26 = .ok (.aconst_null, 1) := by decide +kernel
theorem dX5_fail_27 : decode cX5_fail 27 = .ok (.putfield 28, 3) := by decide +kernel
theorem dX5_fail_30 : decode cX5_fail 30 = .ok (.aload_n 0, 1) := by decide +kernel
theorem dX5_fail_31 : decode cX5_fail 31 = .ok (.aload_n 0, 1) := by decide +kernel
theorem dX5_fail_32 : decode cX5_fail 32 = .ok (.getfield 15, 3) := by decide +kernel
theorem dX5_fail_35 : decode cX5_fail 35 = .ok (.putfield 22, 3) := by decide +kernel
theorem dX5_fail_38 : decode cX5_fail 38 = .ok (.return_, 1) := by decide +kernel
noncomputable def FX5_fail (a0 : Nat) (p1 : Int32) : PP Unit := bd (gI a0 6) (fun x1 => bd (if x1 = 0 then bd (gI a0 7) (fun x2 => bd (sI a0 6 (p1 + ((16 : Int32) * x2))) (fun (_ : Unit) => pu ())) else pu () : PP (Unit)) (fun (v3 : Unit) => bd (sI a0 2 (0 : Int32)) (fun (_ : Unit) => bd (sW none) (fun (_ : Unit) => bd (gI a0 1) (fun x4 => bd (sI a0 8 x4) (fun (_ : Unit) => pu ()))))))
set_option maxHeartbeats 4000000 in
set_option maxRecDepth 100000 in
theorem SX5_fail {l : Launch} {K : KK} {n : Nat} {hn : 270 ≤ n} (a0 : Nat) (p1 : Int32) (h0 : ob a0 5) : CT l K n 0 mX5_fail [.ref (K.2.1 + a0), .int p1] enU (FX5_fail a0 p1) := by
  refine CT.of2 (lv2 := [(0, .ref (K.2.1 + a0)), (1, .int p1)]) (by decide) rfl hn (Nat.le_of_ble_eq_true rfl) rfl (rp_id ?_)
  unfold FX5_fail
  refine rp_aload_n 0 dX5_fail_0 rfl ?_
  refine rp_getI fi_X5_19 h0 rfl dX5_fail_1 (fun x1 => ?_)
  refine rp_as ?_
  refine rp_join 20 (fun (v3 : Unit) => [(0, .ref (K.2.1 + a0))]) (fun v3 => []) (fun v3 => ?_) (fun hJ20 => ?_)
  · refine rp_aload_n 0 dX5_fail_20 rfl ?_
    refine rp_iconst (0 : Int32) dX5_fail_21 (by decide) ?_
    refine rp_putI fi_X5_46 fp_X5_2 h0 rfl dX5_fail_22 ?_
    refine rp_aload_n 0 dX5_fail_25 rfl ?_
    refine rp_null dX5_fail_26 ?_
    refine rp_putW fi_X5_28 fp_X5_3 h0 rfl dX5_fail_27 ?_
    refine rp_aload_n 0 dX5_fail_30 rfl ?_
    refine rp_aload_n 0 dX5_fail_31 rfl ?_
    refine rp_getI fi_X5_15 h0 rfl dX5_fail_32 (fun x4 => ?_)
    refine rp_putI fi_X5_22 fp_X5_8 h0 rfl dX5_fail_35 ?_
    exact rp_pu (rp_vret rfl dX5_fail_38)
  refine rp_if_ne 20 dX5_fail_4 (by decide) ?_ ?_
  · exact rp_sub [0] rfl (rp_pu (hJ20 ()))
  · refine rp_aload_n 0 dX5_fail_7 rfl ?_
    refine rp_iload_n 1 dX5_fail_8 rfl ?_
    refine rp_bipush (16 : Int32) dX5_fail_9 (by decide) ?_
    refine rp_aload_n 0 dX5_fail_11 rfl ?_
    refine rp_getI fi_X5_43 h0 rfl dX5_fail_12 (fun x2 => ?_)
    refine rp_imul dX5_fail_15 ?_
    refine rp_iadd dX5_fail_16 ?_
    refine rp_putI fi_X5_19 fp_X5_6 h0 rfl dX5_fail_17 ?_
    exact rp_sub [0] rfl (rp_pu (hJ20 ()))

theorem dX5_isName_0 : decode cX5_isName 0 = .ok (.aload_n 0, 1) := by decide +kernel
theorem dX5_isName_1 : decode cX5_isName 1 = .ok (.getfield 46, 3) := by decide +kernel
theorem dX5_isName_4 : decode cX5_isName 4 = .ok (.iconst 2, 1) := by decide +kernel
theorem dX5_isName_5 : decode cX5_isName 5 = .ok (.if_icmp .ne 25, 3) := by decide +kernel
theorem dX5_isName_8 : decode cX5_isName 8 = .ok (.aload_n 0, 1) := by decide +kernel
theorem dX5_isName_9 : decode cX5_isName 9 = .ok (.getfield 28, 3) := by decide +kernel
theorem dX5_isName_12 : decode cX5_isName 12 = .ok (.ifnull 14, 3) := by decide +kernel
theorem dX5_isName_15 : decode cX5_isName 15 = .ok (.aload_n 0, 1) := by decide +kernel
theorem dX5_isName_16 : decode cX5_isName 16 = .ok (.getfield 28, 3) := by decide +kernel
theorem dX5_isName_19 : decode cX5_isName 19 = .ok (.getfield 81, 3) := by decide +kernel
theorem dX5_isName_22 : decode cX5_isName 22 = .ok (.iconst 2, 1) := by decide +kernel
theorem dX5_isName_23 : decode cX5_isName 23 = .ok (.if_icmp .ne 7, 3) := by decide +kernel
theorem dX5_isName_26 : decode cX5_isName 26 = .ok (.iconst 1, 1) := by decide +kernel
theorem dX5_isName_27 : decode cX5_isName 27 = .ok (.goto 4, 3) := by decide +kernel
theorem dX5_isName_30 : decode cX5_isName 30 = .ok (.iconst 0, 1) := by decide +kernel
theorem dX5_isName_31 : decode cX5_isName 31 = .ok (.ireturn, 1) := by decide +kernel
noncomputable def FX5_isName (a0 : Nat) : PP Bool := bd (gI a0 2) (fun x1 => bd (if x1 = (2 : Int32) then bd (gW) (fun x2 => if x2 = none then pu (1 : Int32) else bd (gW) (fun x3 => bd (nn x3) (fun x4 => if ((wgr.getD x4.val 0)) = (2 : Int32) then pu (1 : Int32) else pu (0 : Int32)))) else pu (0 : Int32) : PP (Int32)) (fun (v6 : Int32) => zb v6))
set_option maxHeartbeats 4000000 in
set_option maxRecDepth 100000 in
theorem SX5_isName {l : Launch} {K : KK} {n : Nat} {hn : 270 ≤ n} (a0 : Nat) (h0 : ob a0 5) : CT l K n 0 mX5_isName [.ref (K.2.1 + a0)] enZ (FX5_isName a0) := by
  refine CT.of2 (lv2 := [(0, .ref (K.2.1 + a0))]) (by decide) rfl hn (Nat.le_of_ble_eq_true rfl) rfl (rp_id ?_)
  unfold FX5_isName
  refine rp_aload_n 0 dX5_isName_0 rfl ?_
  refine rp_getI fi_X5_46 h0 rfl dX5_isName_1 (fun x1 => ?_)
  refine rp_iconst (2 : Int32) dX5_isName_4 (by decide) ?_
  refine rp_as ?_
  refine rp_join 31 (fun (v6 : Int32) => []) (fun v6 => [.int v6]) (fun v6 => ?_) (fun hJ31 => ?_)
  · exact rp_zretb rfl dX5_isName_31
  refine rp_icmp_ne 30 dX5_isName_5 (by decide) ?_ ?_
  · refine rp_iconst (0 : Int32) dX5_isName_30 (by decide) ?_
    exact rp_sub [] rfl (rp_pu (hJ31 (0 : Int32)))
  · refine rp_aload_n 0 dX5_isName_8 rfl ?_
    refine rp_getW fi_X5_28 h0 rfl dX5_isName_9 (fun x2 => ?_)
    refine rp_ifnull 26 dX5_isName_12 (by decide) ?_ ?_
    · refine rp_iconst (1 : Int32) dX5_isName_26 (by decide) ?_
      refine rp_goto 31 dX5_isName_27 (by decide) ?_
      exact rp_sub [] rfl (rp_pu (hJ31 (1 : Int32)))
    · refine rp_aload_n 0 dX5_isName_15 rfl ?_
      refine rp_getW fi_X5_28 h0 rfl dX5_isName_16 (fun x3 => ?_)
      refine rp_getGg (mw (i := 1854) (by decide +kernel)) dX5_isName_19 (fun x4 => ?_)
      refine rp_iconst (2 : Int32) dX5_isName_22 (by decide) ?_
      refine rp_icmp_ne 30 dX5_isName_23 (by decide) ?_ ?_
      · refine rp_iconst (0 : Int32) dX5_isName_30 (by decide) ?_
        exact rp_sub [] rfl (rp_pu (hJ31 (0 : Int32)))
      · refine rp_iconst (1 : Int32) dX5_isName_26 (by decide) ?_
        refine rp_goto 31 dX5_isName_27 (by decide) ?_
        exact rp_sub [] rfl (rp_pu (hJ31 (1 : Int32)))

theorem dX6_copyFrom_0 : decode cX6_copyFrom 0 = .ok (.aload_n 1, 1) := by decide +kernel
theorem dX6_copyFrom_1 : decode cX6_copyFrom 1 = .ok (.getfield 9, 3) := by decide +kernel
theorem dX6_copyFrom_4 : decode cX6_copyFrom 4 = .ok (.iconst 0, 1) := by decide +kernel
theorem dX6_copyFrom_5 : decode cX6_copyFrom 5 = .ok (.aload_n 0, 1) := by decide +kernel
theorem dX6_copyFrom_6 : decode cX6_copyFrom 6 = .ok (.getfield 9, 3) := by decide +kernel
theorem dX6_copyFrom_9 : decode cX6_copyFrom 9 = .ok (.iconst 0, 1) := by decide +kernel
theorem dX6_copyFrom_10 : decode cX6_copyFrom 10 = .ok (.bipush 6, 2) := by decide +kernel
theorem dX6_copyFrom_12 : decode cX6_copyFrom 12 = .ok (.invokestatic 33, 3) := by decide +kernel
theorem dX6_copyFrom_15 : decode cX6_copyFrom 15 = .ok (.aload_n 1, 1) := by decide +kernel
theorem dX6_copyFrom_16 : decode cX6_copyFrom 16 = .ok (.getfield 15, 3) := by decide +kernel
theorem dX6_copyFrom_19 : decode cX6_copyFrom 19 = .ok (.iconst 0, 1) := by decide +kernel
theorem dX6_copyFrom_20 : decode cX6_copyFrom 20 = .ok (.aload_n 0, 1) := by decide +kernel
theorem dX6_copyFrom_21 : decode cX6_copyFrom 21 = .ok (.getfield 15, 3) := by decide +kernel
theorem dX6_copyFrom_24 : decode cX6_copyFrom 24 = .ok (.iconst 0, 1) := by decide +kernel
theorem dX6_copyFrom_25 : decode cX6_copyFrom 25 = .ok (.bipush 6, 2) := by decide +kernel
theorem dX6_copyFrom_27 : decode cX6_copyFrom 27 = .ok (.invokestatic 33, 3) := by decide +kernel
theorem dX6_copyFrom_30 : decode cX6_copyFrom 30 = .ok (.aload_n 1, 1) := by decide +kernel
theorem dX6_copyFrom_31 : decode cX6_copyFrom 31 = .ok (.getfield 18, 3) := by decide +kernel
theorem dX6_copyFrom_34 : decode cX6_copyFrom 34 = .ok (.iconst 0, 1) := by decide +kernel
theorem dX6_copyFrom_35 : decode cX6_copyFrom 35 = .ok (.aload_n 0, 1) := by decide +kernel
theorem dX6_copyFrom_36 : decode cX6_copyFrom 36 = .ok (.getfield 18, 3) := by decide +kernel
theorem dX6_copyFrom_39 : decode cX6_copyFrom 39 = .ok (.iconst 0, 1) := by decide +kernel
theorem dX6_copyFrom_40 : decode cX6_copyFrom 40 = .ok (.bipush 6, 2) := by decide +kernel
theorem dX6_copyFrom_42 : decode cX6_copyFrom 42 = .ok (.invokestatic 33, 3) := by decide +kernel
theorem dX6_copyFrom_45 : decode cX6_copyFrom 45 = .ok (.aload_n 0, 1) := by decide +kernel
theorem dX6_copyFrom_46 : decode cX6_copyFrom 46 = .ok (.aload_n 1, 1) := by decide +kernel
theorem dX6_copyFrom_47 : decode cX6_copyFrom 47 = .ok (.getfield 39, 3) := by decide +kernel
theorem dX6_copyFrom_50 : decode cX6_copyFrom 50 = .ok (.putfield 39, 3) := by decide +kernel
theorem dX6_copyFrom_53 : decode cX6_copyFrom 53 = .ok (.return_, 1) := by decide +kernel
noncomputable def FX6_copyFrom (a0 : Nat) (p1 : Nat) : PP Unit := bd (cpI (rf p1 0) (rf a0 0) 6) (fun (_ : Unit) => bd (cpI (rf p1 1) (rf a0 1) 6) (fun (_ : Unit) => bd (cpI (rf p1 2) (rf a0 2) 6) (fun (_ : Unit) => bd (gI p1 3) (fun x1 => bd (sI a0 3 x1) (fun (_ : Unit) => pu ())))))
set_option maxHeartbeats 4000000 in
set_option maxRecDepth 100000 in
theorem SX6_copyFrom {l : Launch} {K : KK} {n : Nat} {hn : 270 ≤ n} (a0 : Nat) (p1 : Nat) (h0 : ob a0 6) (h_p1 : ob p1 6) : CT l K n 1 mX6_copyFrom [.ref (K.2.1 + a0), .ref (K.2.1 + p1)] enU (FX6_copyFrom a0 p1) := by
  refine CT.of2 (lv2 := [(0, .ref (K.2.1 + a0)), (1, .ref (K.2.1 + p1))]) (by decide) rfl hn (Nat.le_of_ble_eq_true rfl) rfl (rp_id ?_)
  unfold FX6_copyFrom
  refine rp_aload_n 1 dX6_copyFrom_0 rfl ?_
  refine rp_getR fi_X6_9 h_p1 rfl dX6_copyFrom_1 ?_
  refine rp_iconst (0 : Int32) dX6_copyFrom_4 (by decide) ?_
  refine rp_aload_n 0 dX6_copyFrom_5 rfl ?_
  refine rp_getR fi_X6_9 h0 rfl dX6_copyFrom_6 ?_
  refine rp_iconst (0 : Int32) dX6_copyFrom_9 (by decide) ?_
  refine rp_bipush (6 : Int32) dX6_copyFrom_10 (by decide) ?_
  refine rp_cpI (n0 := 6) (n1 := 6) 6 (tX6_0 h_p1) (tX6_0 h0) (by decide) (by decide) (by decide) (mw (i := 944) (by decide +kernel)) (by omega) (Nat.le_of_ble_eq_true rfl) dX6_copyFrom_12 ?_
  refine rp_aload_n 1 dX6_copyFrom_15 rfl ?_
  refine rp_getR fi_X6_15 h_p1 rfl dX6_copyFrom_16 ?_
  refine rp_iconst (0 : Int32) dX6_copyFrom_19 (by decide) ?_
  refine rp_aload_n 0 dX6_copyFrom_20 rfl ?_
  refine rp_getR fi_X6_15 h0 rfl dX6_copyFrom_21 ?_
  refine rp_iconst (0 : Int32) dX6_copyFrom_24 (by decide) ?_
  refine rp_bipush (6 : Int32) dX6_copyFrom_25 (by decide) ?_
  refine rp_cpI (n0 := 6) (n1 := 6) 6 (tX6_1 h_p1) (tX6_1 h0) (by decide) (by decide) (by decide) (mw (i := 944) (by decide +kernel)) (by omega) (Nat.le_of_ble_eq_true rfl) dX6_copyFrom_27 ?_
  refine rp_aload_n 1 dX6_copyFrom_30 rfl ?_
  refine rp_getR fi_X6_18 h_p1 rfl dX6_copyFrom_31 ?_
  refine rp_iconst (0 : Int32) dX6_copyFrom_34 (by decide) ?_
  refine rp_aload_n 0 dX6_copyFrom_35 rfl ?_
  refine rp_getR fi_X6_18 h0 rfl dX6_copyFrom_36 ?_
  refine rp_iconst (0 : Int32) dX6_copyFrom_39 (by decide) ?_
  refine rp_bipush (6 : Int32) dX6_copyFrom_40 (by decide) ?_
  refine rp_cpI (n0 := 6) (n1 := 6) 6 (tX6_2 h_p1) (tX6_2 h0) (by decide) (by decide) (by decide) (mw (i := 944) (by decide +kernel)) (by omega) (Nat.le_of_ble_eq_true rfl) dX6_copyFrom_42 ?_
  refine rp_aload_n 0 dX6_copyFrom_45 rfl ?_
  refine rp_aload_n 1 dX6_copyFrom_46 rfl ?_
  refine rp_getI fi_X6_39 h_p1 rfl dX6_copyFrom_47 (fun x1 => ?_)
  refine rp_putI fi_X6_39 fp_X6_3 h0 rfl dX6_copyFrom_50 ?_
  exact rp_pu (rp_vret rfl dX6_copyFrom_53)

theorem dX1_lay_0 : decode cX1_lay 0 = .ok (.aload_n 0, 1) := by decide +kernel
theorem dX1_lay_1 : decode cX1_lay 1 = .ok (.getfield 20, 3) := by decide +kernel
theorem dX1_lay_4 : decode cX1_lay 4 = .ok (.aload_n 1, 1) := by decide +kernel
theorem dX1_lay_5 : decode cX1_lay 5 = .ok (.invokevirtual 33, 3) := by decide +kernel
theorem dX1_lay_8 : decode cX1_lay 8 = .ok (.aload_n 2, 1) := by decide +kernel
theorem dX1_lay_9 : decode cX1_lay 9 = .ok (.getfield 36, 3) := by decide +kernel
theorem dX1_lay_12 : decode cX1_lay 12 = .ok (.iconst 0, 1) := by decide +kernel
theorem dX1_lay_13 : decode cX1_lay 13 = .ok (.aload_n 0, 1) := by decide +kernel
theorem dX1_lay_14 : decode cX1_lay 14 = .ok (.getfield 9, 3) := by decide +kernel
theorem dX1_lay_17 : decode cX1_lay 17 = .ok (.iconst 0, 1) := by decide +kernel
theorem dX1_lay_18 : decode cX1_lay 18 = .ok (.iconst 4, 1) := by decide +kernel
theorem dX1_lay_19 : decode cX1_lay 19 = .ok (.invokestatic 39, 3) := by decide +kernel
theorem dX1_lay_22 : decode cX1_lay 22 = .ok (.aload_n 0, 1) := by decide +kernel
theorem dX1_lay_23 : decode cX1_lay 23 = .ok (.getfield 29, 3) := by decide +kernel
theorem dX1_lay_26 : decode cX1_lay 26 = .ok (.aload_n 3, 1) := by decide +kernel
theorem dX1_lay_27 : decode cX1_lay 27 = .ok (.invokevirtual 45, 3) := by decide +kernel
theorem dX1_lay_30 : decode cX1_lay 30 = .ok (.aload_n 0, 1) := by decide +kernel
theorem dX1_lay_31 : decode cX1_lay 31 = .ok (.iconst 1, 1) := by decide +kernel
theorem dX1_lay_32 : decode cX1_lay 32 = .ok (.putfield 48, 3) := by decide +kernel
theorem dX1_lay_35 : decode cX1_lay 35 = .ok (.return_, 1) := by decide +kernel
noncomputable def FX1_lay (a0 : Nat) (p1 : Nat) (p2 : Nat) (p3 : Nat) : PP Unit := bd (FX4_copyFrom (rf a0 0) p1) (fun (_ : Unit) => bd (cpI (rf p2 0) (rf a0 1) 4) (fun (_ : Unit) => bd (FX6_copyFrom (rf a0 2) p3) (fun (_ : Unit) => bd (sI a0 3 (1 : Int32)) (fun (_ : Unit) => pu ()))))
set_option maxHeartbeats 4000000 in
set_option maxRecDepth 100000 in
theorem SX1_lay {l : Launch} {K : KK} {n : Nat} {hn : 270 ≤ n} (a0 : Nat) (p1 : Nat) (p2 : Nat) (p3 : Nat) (h0 : ob a0 1) (h_p1 : ob p1 4) (h_p2 : ob p2 9) (h_p3 : ob p3 6) : CT l K n 2 mX1_lay [.ref (K.2.1 + a0), .ref (K.2.1 + p1), .ref (K.2.1 + p2), .ref (K.2.1 + p3)] enU (FX1_lay a0 p1 p2 p3) := by
  refine CT.of2 (lv2 := [(0, .ref (K.2.1 + a0)), (1, .ref (K.2.1 + p1)), (2, .ref (K.2.1 + p2)), (3, .ref (K.2.1 + p3))]) (by decide) rfl hn (Nat.le_of_ble_eq_true rfl) rfl (rp_id ?_)
  unfold FX1_lay
  refine rp_aload_n 0 dX1_lay_0 rfl ?_
  refine rp_getR fi_X1_20 h0 rfl dX1_lay_1 ?_
  refine rp_aload_n 1 dX1_lay_4 rfl ?_
  refine rp_callVv [.ref (K.2.1 + p1)] (SX4_copyFrom (hn := hn) (rf a0 0) p1 (tX1_0 h0) h_p1) cvX4_copyFrom (mw (i := 938) (by decide +kernel)) (by omega) (tX1_0 h0) (by decide) rfl rfl rfl (Nat.le_of_ble_eq_true rfl) dX1_lay_5 (fun x1 => ?_)
  refine rp_aload_n 2 dX1_lay_8 rfl ?_
  refine rp_getR fi_X1_36 h_p2 rfl dX1_lay_9 ?_
  refine rp_iconst (0 : Int32) dX1_lay_12 (by decide) ?_
  refine rp_aload_n 0 dX1_lay_13 rfl ?_
  refine rp_getR fi_X1_9 h0 rfl dX1_lay_14 ?_
  refine rp_iconst (0 : Int32) dX1_lay_17 (by decide) ?_
  refine rp_iconst (4 : Int32) dX1_lay_18 (by decide) ?_
  refine rp_cpI (n0 := 4) (n1 := 4) 4 (tX9_0 h_p2) (tX1_1 h0) (by decide) (by decide) (by decide) (mw (i := 939) (by decide +kernel)) (by omega) (Nat.le_of_ble_eq_true rfl) dX1_lay_19 ?_
  refine rp_aload_n 0 dX1_lay_22 rfl ?_
  refine rp_getR fi_X1_29 h0 rfl dX1_lay_23 ?_
  refine rp_aload_n 3 dX1_lay_26 rfl ?_
  refine rp_callVv [.ref (K.2.1 + p3)] (SX6_copyFrom (hn := hn) (rf a0 2) p3 (tX1_2 h0) h_p3) cvX6_copyFrom (mw (i := 940) (by decide +kernel)) (by omega) (tX1_2 h0) (by decide) rfl rfl rfl (Nat.le_of_ble_eq_true rfl) dX1_lay_27 (fun x2 => ?_)
  refine rp_aload_n 0 dX1_lay_30 rfl ?_
  refine rp_iconst (1 : Int32) dX1_lay_31 (by decide) ?_
  refine rp_putZ (by decide) fi_X1_48 fp_X1_3 h0 rfl dX1_lay_32 ?_
  exact rp_pu (rp_vret rfl dX1_lay_35)

theorem dX6_add_0 : decode cX6_add 0 = .ok (.aload_n 0, 1) := by decide +kernel
theorem dX6_add_1 : decode cX6_add 1 = .ok (.getfield 39, 3) := by decide +kernel
theorem dX6_add_4 : decode cX6_add 4 = .ok (.bipush 6, 2) := by decide +kernel
theorem dX6_add_6 : decode cX6_add 6 = .ok (.if_icmp .lt 5, 3) := by decide +kernel
theorem dX6_add_9 : decode cX6_add 9 = .ok (.iconst 0, 1) := by decide +kernel
theorem dX6_add_10 : decode cX6_add 10 = .ok (.ireturn, 1) := by decide +kernel
theorem dX6_add_11 : decode cX6_add 11 = .ok (.aload_n 0, 1) := by decide +kernel
theorem dX6_add_12 : decode cX6_add 12 = .ok (.getfield 9, 3) := by decide +kernel
theorem dX6_add_15 : decode cX6_add 15 = .ok (.aload_n 0, 1) := by decide +kernel
theorem dX6_add_16 : decode cX6_add 16 = .ok (.getfield 39, 3) := by decide +kernel
theorem dX6_add_19 : decode cX6_add 19 = .ok (.iload_n 1, 1) := by decide +kernel
theorem dX6_add_20 : decode cX6_add 20 = .ok (.iastore, 1) := by decide +kernel
theorem dX6_add_21 : decode cX6_add 21 = .ok (.aload_n 0, 1) := by decide +kernel
theorem dX6_add_22 : decode cX6_add 22 = .ok (.getfield 15, 3) := by decide +kernel
theorem dX6_add_25 : decode cX6_add 25 = .ok (.aload_n 0, 1) := by decide +kernel
theorem dX6_add_26 : decode cX6_add 26 = .ok (.getfield 39, 3) := by decide +kernel
theorem dX6_add_29 : decode cX6_add 29 = .ok (.iload_n 2, 1) := by decide +kernel
theorem dX6_add_30 : decode cX6_add 30 = .ok (.iastore, 1) := by decide +kernel
theorem dX6_add_31 : decode cX6_add 31 = .ok (.aload_n 0, 1) := by decide +kernel
theorem dX6_add_32 : decode cX6_add 32 = .ok (.getfield 18, 3) := by decide +kernel
theorem dX6_add_35 : decode cX6_add 35 = .ok (.aload_n 0, 1) := by decide +kernel
theorem dX6_add_36 : decode cX6_add 36 = .ok (.getfield 39, 3) := by decide +kernel
theorem dX6_add_39 : decode cX6_add 39 = .ok (.iload_n 3, 1) := by decide +kernel
theorem dX6_add_40 : decode cX6_add 40 = .ok (.iastore, 1) := by decide +kernel
theorem dX6_add_41 : decode cX6_add 41 = .ok (.aload_n 0, 1) := by decide +kernel
theorem dX6_add_42 : decode cX6_add 42 = .ok (.dup, 1) := by decide +kernel
theorem dX6_add_43 : decode cX6_add 43 = .ok (.getfield 39, 3) := by decide +kernel
theorem dX6_add_46 : decode cX6_add 46 = .ok (.iconst 1, 1) := by decide +kernel
theorem dX6_add_47 : decode cX6_add 47 = .ok (.iadd, 1) := by decide +kernel
theorem dX6_add_48 : decode cX6_add 48 = .ok (.putfield 39, 3) := by decide +kernel
theorem dX6_add_51 : decode cX6_add 51 = .ok (.iconst 1, 1) := by decide +kernel
theorem dX6_add_52 : decode cX6_add 52 = .ok (.ireturn, 1) := by decide +kernel
noncomputable def FX6_add (a0 : Nat) (p1 : Int32) (p2 : Int32) (p3 : Int32) : PP Bool := bd (gI a0 3) (fun x1 => if x1 < (6 : Int32) then bd (gI a0 3) (fun x2 => bd (uI (rf a0 0) 6 x2 p1) (fun (_ : Unit) => bd (gI a0 3) (fun x3 => bd (uI (rf a0 1) 6 x3 p2) (fun (_ : Unit) => bd (gI a0 3) (fun x4 => bd (uI (rf a0 2) 6 x4 p3) (fun (_ : Unit) => bd (gI a0 3) (fun x5 => bd (sI a0 3 (x5 + (1 : Int32))) (fun (_ : Unit) => zb (1 : Int32))))))))) else zb (0 : Int32))
set_option maxHeartbeats 4000000 in
set_option maxRecDepth 100000 in
theorem SX6_add {l : Launch} {K : KK} {n : Nat} {hn : 270 ≤ n} (a0 : Nat) (p1 : Int32) (p2 : Int32) (p3 : Int32) (h0 : ob a0 6) : CT l K n 0 mX6_add [.ref (K.2.1 + a0), .int p1, .int p2, .int p3] enZ (FX6_add a0 p1 p2 p3) := by
  refine CT.of2 (lv2 := [(0, .ref (K.2.1 + a0)), (1, .int p1), (2, .int p2), (3, .int p3)]) (by decide) rfl hn (Nat.le_of_ble_eq_true rfl) rfl (rp_id ?_)
  unfold FX6_add
  refine rp_aload_n 0 dX6_add_0 rfl ?_
  refine rp_getI fi_X6_39 h0 rfl dX6_add_1 (fun x1 => ?_)
  refine rp_bipush (6 : Int32) dX6_add_4 (by decide) ?_
  refine rp_icmp_lt 11 dX6_add_6 (by decide) ?_ ?_
  · refine rp_aload_n 0 dX6_add_11 rfl ?_
    refine rp_getR fi_X6_9 h0 rfl dX6_add_12 ?_
    refine rp_aload_n 0 dX6_add_15 rfl ?_
    refine rp_getI fi_X6_39 h0 rfl dX6_add_16 (fun x2 => ?_)
    refine rp_iload_n 1 dX6_add_19 rfl ?_
    refine rp_iast (tX6_0 h0) dX6_add_20 ?_
    refine rp_aload_n 0 dX6_add_21 rfl ?_
    refine rp_getR fi_X6_15 h0 rfl dX6_add_22 ?_
    refine rp_aload_n 0 dX6_add_25 rfl ?_
    refine rp_getI fi_X6_39 h0 rfl dX6_add_26 (fun x3 => ?_)
    refine rp_iload_n 2 dX6_add_29 rfl ?_
    refine rp_iast (tX6_1 h0) dX6_add_30 ?_
    refine rp_aload_n 0 dX6_add_31 rfl ?_
    refine rp_getR fi_X6_18 h0 rfl dX6_add_32 ?_
    refine rp_aload_n 0 dX6_add_35 rfl ?_
    refine rp_getI fi_X6_39 h0 rfl dX6_add_36 (fun x4 => ?_)
    refine rp_iload_n 3 dX6_add_39 rfl ?_
    refine rp_iast (tX6_2 h0) dX6_add_40 ?_
    refine rp_aload_n 0 dX6_add_41 rfl ?_
    refine rp_dup dX6_add_42 rfl ?_
    refine rp_getI fi_X6_39 h0 rfl dX6_add_43 (fun x5 => ?_)
    refine rp_iconst (1 : Int32) dX6_add_46 (by decide) ?_
    refine rp_iadd dX6_add_47 ?_
    refine rp_putI fi_X6_39 fp_X6_3 h0 rfl dX6_add_48 ?_
    refine rp_iconst (1 : Int32) dX6_add_51 (by decide) ?_
    exact rp_zretb rfl dX6_add_52
  · refine rp_iconst (0 : Int32) dX6_add_9 (by decide) ?_
    exact rp_zretb rfl dX6_add_10
