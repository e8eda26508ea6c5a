theorem dX9_fewest_0 : decode cX9_fewest 0 = .ok (.aload_n 0, 1) := by decide +kernel
theorem dX9_fewest_1 : decode cX9_fewest 1 = .ok (.getfield 21, 3) := by decide +kernel
theorem dX9_fewest_4 : decode cX9_fewest 4 = .ok (.aload_n 1, 1) := by decide +kernel
theorem dX9_fewest_5 : decode cX9_fewest 5 = .ok (.invokevirtual 31, 3) := by decide +kernel
theorem dX9_fewest_8 : decode cX9_fewest 8 = .ok (.aload_n 0, 1) := by decide +kernel
theorem dX9_fewest_9 : decode cX9_fewest 9 = .ok (.invokevirtual 37, 3) := by decide +kernel
theorem dX9_fewest_12 : decode cX9_fewest 12 = .ok (.iconst 0, 1) := by decide +kernel
theorem dX9_fewest_13 : decode cX9_fewest 13 = .ok (.istore_n 2, 1) := by decide +kernel
theorem dX9_fewest_14 : decode cX9_fewest 14 = .ok (.iload_n 2, 1) := by decide +kernel
theorem dX9_fewest_15 : decode cX9_fewest 15 = .ok (.bipush 6, 2) := by decide +kernel
theorem dX9_fewest_17 : decode cX9_fewest 17 = .ok (.if_icmp .gt 20, 3) := by decide +kernel
theorem dX9_fewest_20 : decode cX9_fewest 20 = .ok (.aload_n 0, 1) := by decide +kernel
theorem dX9_fewest_21 : decode cX9_fewest 21 = .ok (.iconst 0, 1) := by decide +kernel
theorem dX9_fewest_22 : decode cX9_fewest 22 = .ok (.iload_n 2, 1) := by decide +kernel
theorem dX9_fewest_23 : decode cX9_fewest 23 = .ok (.invokevirtual 40, 3) := by decide +kernel
theorem dX9_fewest_26 : decode cX9_fewest 26 = .ok (.ifCond .eq 5, 3) := by decide +kernel
theorem dX9_fewest_29 : decode cX9_fewest 29 = .ok (.iload_n 2, 1) := by decide +kernel
theorem dX9_fewest_30 : decode cX9_fewest 30 = .ok (.ireturn, 1) := by decide +kernel
theorem dX9_fewest_31 : decode cX9_fewest 31 = .ok (.iinc 2 1, 3) := by decide +kernel
theorem dX9_fewest_34 : decode cX9_fewest 34 = .ok (.goto (-20), 3) := by decide +kernel
theorem dX9_fewest_37 : decode cX9_fewest 37 = .ok (.iconst (-1), 1) := by decide +kernel
theorem dX9_fewest_38 : decode cX9_fewest 38 = .ok (.ireturn, 1) := by decide +kernel
noncomputable def FX9_fewest (a0 : Nat) (p1 : Nat) : PP Int32 := bd (FX4_copyFrom (rf a0 2) p1) (fun (_ : Unit) => bd (FX9_findUsefulLines a0) (fun (_ : Unit) => bd (it (fun (s3 : Int32) => (if (6 : Int32) < s3 then pu (Sum.inr (Sum.inl ())) else bd (FX9_search 10 a0 (0 : Int32) s3) (fun x4 => if ((b2i x4)) = 0 then lt (s3 + (1 : Int32)) (fun y5 => pu (Sum.inl y5)) else pu (Sum.inr (Sum.inr (s3)))) : PP ((Int32) ⊕ ((Unit) ⊕ (Int32))))) FU (0 : Int32)) (Sum.elim (fun (v6 : Unit) => pu (-1 : Int32)) (fun (v7 : Int32) => pu v7))))
set_option maxHeartbeats 4000000 in
set_option maxRecDepth 100000 in
theorem SX9_fewest {l : Launch} {K : KK} {n : Nat} {hn : 270 ≤ n} (a0 : Nat) (p1 : Nat) (h0 : ob a0 9) (h_p1 : ob p1 4) : CT l K n 41 mX9_fewest [.ref (K.2.1 + a0), .ref (K.2.1 + p1)] enI (FX9_fewest a0 p1) := by
  refine CT.of2 (lv2 := [(0, .ref (K.2.1 + a0)), (1, .ref (K.2.1 + p1))]) (by decide) rfl hn (Nat.le_of_ble_eq_true rfl) rfl (rp_id ?_)
  unfold FX9_fewest
  refine rp_aload_n 0 dX9_fewest_0 rfl ?_
  refine rp_getR fi_X9_21 h0 rfl dX9_fewest_1 ?_
  refine rp_aload_n 1 dX9_fewest_4 rfl ?_
  refine rp_callVv [.ref (K.2.1 + p1)] (SX4_copyFrom (hn := hn) (rf a0 2) p1 (tX9_2 h0) h_p1) cvX4_copyFrom (mw (i := 1025) (by decide +kernel)) (by omega) (tX9_2 h0) (by decide) rfl rfl rfl (Nat.le_of_ble_eq_true rfl) dX9_fewest_5 (fun x1 => ?_)
  refine rp_aload_n 0 dX9_fewest_8 rfl ?_
  refine rp_callVv [] (SX9_findUsefulLines (hn := hn) a0 h0) cvX9_findUsefulLines (mw (i := 1026) (by decide +kernel)) (by omega) h0 (by decide) rfl rfl rfl (Nat.le_of_ble_eq_true rfl) dX9_fewest_9 (fun x2 => ?_)
  refine rp_iconst (0 : Int32) dX9_fewest_12 (by decide) ?_
  refine rp_istore_n [(2, .int (0 : Int32)), (0, .ref (K.2.1 + a0)), (1, .ref (K.2.1 + p1))] dX9_fewest_13 (by decide) rfl ?_
  refine rp_as ?_
  refine rp_join2 37 (fun v6 => []) (fun _ => []) 29 (fun v7 => [(2, .int v7)]) (fun _ => []) (fun v6 => ?_) (fun v7 => ?_) (fun hX14_0 hX14_1 => ?_)
  · refine rp_iconst (-1 : Int32) dX9_fewest_37 (by decide) ?_
    exact rp_pu (rp_iret rfl dX9_fewest_38)
  · refine rp_iload_n 0 dX9_fewest_29 rfl ?_
    exact rp_pu (rp_iret rfl dX9_fewest_30)
  refine rp_sub [1, 0] rfl (rp_it (fun (s3 : Int32) => [(0, .ref (K.2.1 + a0)), (2, .int s3)]) (fun N14 ih14 s3 => ?_) FU (0 : Int32))
  refine rp_iload_n 1 dX9_fewest_14 rfl ?_
  refine rp_bipush (6 : Int32) dX9_fewest_15 (by decide) ?_
  refine rp_icmp_gt 37 dX9_fewest_17 (by decide) ?_ ?_
  · exact rp_sub [] rfl (rp_puRL (hX14_0 ()))
  · refine rp_aload_n 0 dX9_fewest_20 rfl ?_
    refine rp_iconst (0 : Int32) dX9_fewest_21 (by decide) ?_
    refine rp_iload_n 1 dX9_fewest_22 rfl ?_
    refine rp_callVz [.int (0 : Int32), .int s3] (SX9_search (hn := hn) 10 a0 (0 : Int32) s3 h0) cvX9_search (mw (i := 1030) (by decide +kernel)) (by omega) h0 (by decide) rfl rfl rfl (Nat.le_of_ble_eq_true rfl) dX9_fewest_23 (fun x4 => ?_)
    refine rp_if_eq 31 dX9_fewest_26 (by decide) ?_ ?_
    · refine rp_iinc (fun y5 => [(2, .int y5), (0, .ref (K.2.1 + a0))]) 1 dX9_fewest_31 rfl (by rfl) (by decide) (fun y5 => rfl) (fun y5 => ?_)
      refine rp_goto 14 dX9_fewest_34 (by decide) ?_
      exact rp_sub [1, 0] rfl (ih14 y5)
    · exact rp_sub [1] rfl (rp_puRR (hX14_1 s3))

theorem dX11_feed_0 : decode cX11_feed 0 = .ok (.aload_n 0, 1) := by decide +kernel
theorem dX11_feed_1 : decode cX11_feed 1 = .ok (.getfield 10, 3) := by decide +kernel
theorem dX11_feed_4 : decode cX11_feed 4 = .ok (.lload_n 1, 1) := by decide +kernel
theorem dX11_feed_5 : decode cX11_feed 5 = .ok (.invokevirtual 88, 3) := by decide +kernel
theorem dX11_feed_8 : decode cX11_feed 8 = .ok (.aload_n 0, 1) := by decide +kernel
theorem dX11_feed_9 : decode cX11_feed 9 = .ok (.getfield 10, 3) := by decide +kernel
theorem dX11_feed_12 : decode cX11_feed 12 = .ok (.lload_n 3, 1) := by decide +kernel
theorem dX11_feed_13 : decode cX11_feed 13 = .ok (.invokevirtual 88, 3) := by decide +kernel
theorem dX11_feed_16 : decode cX11_feed 16 = .ok (.aload_n 0, 1) := by decide +kernel
theorem dX11_feed_17 : decode cX11_feed 17 = .ok (.getfield 10, 3) := by decide +kernel
theorem dX11_feed_20 : decode cX11_feed 20 = .ok (.lload 5, 2) := by decide +kernel
theorem dX11_feed_22 : decode cX11_feed 22 = .ok (.invokevirtual 88, 3) := by decide +kernel
theorem dX11_feed_25 : decode cX11_feed 25 = .ok (.aload_n 0, 1) := by decide +kernel
theorem dX11_feed_26 : decode cX11_feed 26 = .ok (.getfield 10, 3) := by decide +kernel
theorem dX11_feed_29 : decode cX11_feed 29 = .ok (.getfield 92, 3) := by decide +kernel
theorem dX11_feed_32 : decode cX11_feed 32 = .ok (.ireturn, 1) := by decide +kernel
noncomputable def FX11_feed (a0 : Nat) (p1 : Int64) (p2 : Int64) (p3 : Int64) : PP Int32 := bd (FX5_addBytes (rf a0 0) p1) (fun (_ : Unit) => bd (FX5_addBytes (rf a0 0) p2) (fun (_ : Unit) => bd (FX5_addBytes (rf a0 0) p3) (fun (_ : Unit) => bd (gI (rf a0 0) 1) (fun x4 => pu x4))))
set_option maxHeartbeats 4000000 in
set_option maxRecDepth 100000 in
theorem SX11_feed {l : Launch} {K : KK} {n : Nat} {hn : 270 ≤ n} (a0 : Nat) (p1 : Int64) (p2 : Int64) (p3 : Int64) (h0 : ob a0 10) : CT l K n 1 mX11_feed [.ref (K.2.1 + a0), .long p1, .long p2, .long p3] enI (FX11_feed a0 p1 p2 p3) := by
  refine CT.of2 (lv2 := [(0, .ref (K.2.1 + a0)), (1, .long p1), (3, .long p2), (5, .long p3)]) (by decide) rfl hn (Nat.le_of_ble_eq_true rfl) rfl (rp_id ?_)
  unfold FX11_feed
  refine rp_aload_n 0 dX11_feed_0 rfl ?_
  refine rp_getR fi_X11_10 h0 rfl dX11_feed_1 ?_
  refine rp_lload_n 1 dX11_feed_4 rfl ?_
  refine rp_callVv [.long p1] (SX5_addBytes (hn := hn) (rf a0 0) p1 (tX11_0 h0)) cvX5_addBytes (mw (i := 414) (by decide +kernel)) (by omega) (tX11_0 h0) (by decide) rfl rfl rfl (Nat.le_of_ble_eq_true rfl) dX11_feed_5 (fun x1 => ?_)
  refine rp_aload_n 0 dX11_feed_8 rfl ?_
  refine rp_getR fi_X11_10 h0 rfl dX11_feed_9 ?_
  refine rp_lload_n 2 dX11_feed_12 rfl ?_
  refine rp_callVv [.long p2] (SX5_addBytes (hn := hn) (rf a0 0) p2 (tX11_0 h0)) cvX5_addBytes (mw (i := 414) (by decide +kernel)) (by omega) (tX11_0 h0) (by decide) rfl rfl rfl (Nat.le_of_ble_eq_true rfl) dX11_feed_13 (fun x2 => ?_)
  refine rp_aload_n 0 dX11_feed_16 rfl ?_
  refine rp_getR fi_X11_10 h0 rfl dX11_feed_17 ?_
  refine rp_lload 3 dX11_feed_20 rfl ?_
  refine rp_callVv [.long p3] (SX5_addBytes (hn := hn) (rf a0 0) p3 (tX11_0 h0)) cvX5_addBytes (mw (i := 414) (by decide +kernel)) (by omega) (tX11_0 h0) (by decide) rfl rfl rfl (Nat.le_of_ble_eq_true rfl) dX11_feed_22 (fun x3 => ?_)
  refine rp_aload_n 0 dX11_feed_25 rfl ?_
  refine rp_getR fi_X11_10 h0 rfl dX11_feed_26 ?_
  refine rp_getI fi_X11_92 (tX11_0 h0) rfl dX11_feed_29 (fun x4 => ?_)
  exact rp_pu (rp_iret rfl dX11_feed_32)

theorem dX11_startAnew_0 : decode cX11_startAnew 0 = .ok (.aload_n 0, 1) := by decide +kernel
theorem dX11_startAnew_1 : decode cX11_startAnew 1 = .ok (.getfield 47, 3) := by decide +kernel
theorem dX11_startAnew_4 : decode cX11_startAnew 4 = .ok (.invokevirtual 116, 3) := by decide +kernel
theorem dX11_startAnew_7 : decode cX11_startAnew 7 = .ok (.aload_n 0, 1) := by decide +kernel
theorem dX11_startAnew_8 : decode cX11_startAnew 8 = .ok (.getfield 35, 3) := by decide +kernel
theorem dX11_startAnew_11 : decode cX11_startAnew 11 = .ok (.iconst 0, 1) := by decide +kernel
theorem dX11_startAnew_12 : decode cX11_startAnew 12 = .ok (.putfield 119, 3) := by decide +kernel
theorem dX11_startAnew_15 : decode cX11_startAnew 15 = .ok (.aload_n 0, 1) := by decide +kernel
theorem dX11_startAnew_16 : decode cX11_startAnew 16 = .ok (.getfield 66, 3) := by decide +kernel
theorem dX11_startAnew_19 : decode cX11_startAnew 19 = .ok (.invokevirtual 122, 3) := by decide +kernel
theorem dX11_startAnew_22 : decode cX11_startAnew 22 = .ok (.aload_n 0, 1) := by decide +kernel
theorem dX11_startAnew_23 : decode cX11_startAnew 23 = .ok (.getfield 73, 3) := by decide +kernel
theorem dX11_startAnew_26 : decode cX11_startAnew 26 = .ok (.iconst 0, 1) := by decide +kernel
theorem dX11_startAnew_27 : decode cX11_startAnew 27 = .ok (.putfield 125, 3) := by decide +kernel
theorem dX11_startAnew_30 : decode cX11_startAnew 30 = .ok (.aload_n 0, 1) := by decide +kernel
theorem dX11_startAnew_31 : decode cX11_startAnew 31 = .ok (.getfield 57, 3) := by decide +kernel
theorem dX11_startAnew_34 : decode cX11_startAnew 34 = .ok (.iconst 0, 1) := by decide +kernel
theorem dX11_startAnew_35 : decode cX11_startAnew 35 = .ok (.putfield 126, 3) := by decide +kernel
theorem dX11_startAnew_38 : decode cX11_startAnew 38 = .ok (.iconst 0, 1) := by decide +kernel
theorem dX11_startAnew_39 : decode cX11_startAnew 39 = .ok (.istore_n 1, 1) := by decide +kernel
theorem dX11_startAnew_40 : decode cX11_startAnew 40 = .ok (.iload_n 1, 1) := by decide +kernel
theorem dX11_startAnew_41 : decode cX11_startAnew 41 = .ok (.aload_n 0, 1) := by decide +kernel
theorem dX11_startAnew_42 : decode cX11_startAnew 42 = .ok (.getfield 79, 3) := by decide +kernel
theorem dX11_startAnew_45 : decode cX11_startAnew 45 = .ok (.arraylength, 1) := by decide +kernel
theorem dX11_startAnew_46 : decode cX11_startAnew 46 = .ok (.if_icmp .ge 19, 3) := by decide +kernel
theorem dX11_startAnew_49 : decode cX11_startAnew 49 = .ok (.aload_n 0, 1) := by decide +kernel
theorem dX11_startAnew_50 : decode cX11_startAnew 50 = .ok (.getfield 79, 3) := by decide +kernel
theorem dX11_startAnew_53 : decode cX11_startAnew 53 = .ok (.iload_n 1, 1) := by decide +kernel
theorem dX11_startAnew_54 : decode cX11_startAnew 54 = .ok (.aaload, 1) := by decide +kernel
theorem dX11_startAnew_55 : decode cX11_startAnew 55 = .ok (.iconst 0, 1) := by decide +kernel
theorem dX11_startAnew_56 : decode cX11_startAnew 56 = .ok (.putfield 127, 3) := by decide +kernel
theorem dX11_startAnew_59 : decode cX11_startAnew 59 = .ok (.iinc 1 1, 3) := by decide +kernel
theorem dX11_startAnew_62 : decode cX11_startAnew 62 = .ok (.goto (-22), 3) := by decide +kernel
theorem dX11_startAnew_65 : decode cX11_startAnew 65 = .ok (.return_, 1) := by decide +kernel
noncomputable def FX11_startAnew (a0 : Nat) : PP Unit := bd (FX4_begin (rf a0 5)) (fun (_ : Unit) => bd (sI (rf a0 3) 4 (0 : Int32)) (fun (_ : Unit) => bd (FX9_forget (rf a0 8)) (fun (_ : Unit) => bd (sI (rf a0 9) 3 (0 : Int32)) (fun (_ : Unit) => bd (sI (rf a0 7) 1 (0 : Int32)) (fun (_ : Unit) => bd (it (fun (s3 : Int32) => (if (4 : Int32) ≤ s3 then pu (Sum.inr ()) else bd (gd (ib s3 4 = true)) (fun (_ : Unit) => bd (sI (rf (rf a0 10) s3.toNatClampNeg) 3 (0 : Int32)) (fun (_ : Unit) => lt (s3 + (1 : Int32)) (fun y5 => pu (Sum.inl y5)))) : PP ((Int32) ⊕ (Unit)))) FU (0 : Int32)) (fun (v6 : Unit) => pu ()))))))
set_option maxHeartbeats 4000000 in
set_option maxRecDepth 100000 in
theorem SX11_startAnew {l : Launch} {K : KK} {n : Nat} {hn : 270 ≤ n} (a0 : Nat) (h0 : ob a0 10) : CT l K n 1 mX11_startAnew [.ref (K.2.1 + a0)] enU (FX11_startAnew a0) := by
  refine CT.of2 (lv2 := [(0, .ref (K.2.1 + a0))]) (by decide) rfl hn (Nat.le_of_ble_eq_true rfl) rfl (rp_id ?_)
  unfold FX11_startAnew
  refine rp_aload_n 0 dX11_startAnew_0 rfl ?_
  refine rp_getR fi_X11_47 h0 rfl dX11_startAnew_1 ?_
  refine rp_callVv [] (SX4_begin (hn := hn) (rf a0 5) (tX11_5 h0)) cvX4_begin (mw (i := 735) (by decide +kernel)) (by omega) (tX11_5 h0) (by decide) rfl rfl rfl (Nat.le_of_ble_eq_true rfl) dX11_startAnew_4 (fun x1 => ?_)
  refine rp_aload_n 0 dX11_startAnew_7 rfl ?_
  refine rp_getR fi_X11_35 h0 rfl dX11_startAnew_8 ?_
  refine rp_iconst (0 : Int32) dX11_startAnew_11 (by decide) ?_
  refine rp_putI fi_X11_119 fp_X3_4 (tX11_3 h0) rfl dX11_startAnew_12 ?_
  refine rp_aload_n 0 dX11_startAnew_15 rfl ?_
  refine rp_getR fi_X11_66 h0 rfl dX11_startAnew_16 ?_
  refine rp_callVv [] (SX9_forget (hn := hn) (rf a0 8) (tX11_8 h0)) cvX9_forget (mw (i := 739) (by decide +kernel)) (by omega) (tX11_8 h0) (by decide) rfl rfl rfl (Nat.le_of_ble_eq_true rfl) dX11_startAnew_19 (fun x2 => ?_)
  refine rp_aload_n 0 dX11_startAnew_22 rfl ?_
  refine rp_getR fi_X11_73 h0 rfl dX11_startAnew_23 ?_
  refine rp_iconst (0 : Int32) dX11_startAnew_26 (by decide) ?_
  refine rp_putI fi_X11_125 fp_X6_3 (tX11_9 h0) rfl dX11_startAnew_27 ?_
  refine rp_aload_n 0 dX11_startAnew_30 rfl ?_
  refine rp_getR fi_X11_57 h0 rfl dX11_startAnew_31 ?_
  refine rp_iconst (0 : Int32) dX11_startAnew_34 (by decide) ?_
  refine rp_putI fi_X11_126 fp_X2_1 (tX11_7 h0) rfl dX11_startAnew_35 ?_
  refine rp_iconst (0 : Int32) dX11_startAnew_38 (by decide) ?_
  refine rp_istore_n [(1, .int (0 : Int32)), (0, .ref (K.2.1 + a0))] dX11_startAnew_39 (by decide) rfl ?_
  refine rp_as ?_
  refine rp_join 65 (fun v6 => []) (fun _ => []) (fun v6 => ?_) (fun hX40_0 => ?_)
  · exact rp_pu (rp_vret rfl dX11_startAnew_65)
  refine rp_sub [1, 0] rfl (rp_it (fun (s3 : Int32) => [(0, .ref (K.2.1 + a0)), (1, .int s3)]) (fun N40 ih40 s3 => ?_) FU (0 : Int32))
  refine rp_iload_n 1 dX11_startAnew_40 rfl ?_
  refine rp_aload_n 0 dX11_startAnew_41 rfl ?_
  refine rp_getR fi_X11_79 h0 rfl dX11_startAnew_42 ?_
  refine rp_alen (v := (4 : Int32)) (tX11_10 h0) rfl rfl dX11_startAnew_45 ?_
  refine rp_icmp_ge 65 dX11_startAnew_46 (by decide) ?_ ?_
  · exact rp_sub [] rfl (rp_puR (hX40_0 ()))
  · refine rp_aload_n 0 dX11_startAnew_49 rfl ?_
    refine rp_getR fi_X11_79 h0 rfl dX11_startAnew_50 ?_
    refine rp_iload_n 1 dX11_startAnew_53 rfl ?_
    refine rp_aald (tX11_10 h0) (Or.inr rfl) dX11_startAnew_54 (fun hb4 => ?_)
    refine rp_iconst (0 : Int32) dX11_startAnew_55 (by decide) ?_
    refine rp_putZ (by decide) fi_X11_127 fp_X1_3 (arr5 (tX11_10 h0) hb4) rfl dX11_startAnew_56 ?_
    refine rp_iinc (fun y5 => [(1, .int y5), (0, .ref (K.2.1 + a0))]) 1 dX11_startAnew_59 rfl (by rfl) (by decide) (fun y5 => rfl) (fun y5 => ?_)
    refine rp_goto 40 dX11_startAnew_62 (by decide) ?_
    exact rp_sub [1, 0] rfl (ih40 y5)

theorem dX11_line_0 : decode cX11_line 0 = .ok (.aload_n 0, 1) := by decide +kernel
theorem dX11_line_1 : decode cX11_line 1 = .ok (.getfield 19, 3) := by decide +kernel
theorem dX11_line_4 : decode cX11_line 4 = .ok (.iload_n 1, 1) := by decide +kernel
theorem dX11_line_5 : decode cX11_line 5 = .ok (.invokevirtual 131, 3) := by decide +kernel
theorem dX11_line_8 : decode cX11_line 8 = .ok (.ifCond .ne 5, 3) := by decide +kernel
theorem dX11_line_11 : decode cX11_line 11 = .ok (.iconst (-1), 1) := by decide +kernel
theorem dX11_line_12 : decode cX11_line 12 = .ok (.ireturn, 1) := by decide +kernel
theorem dX11_line_13 : decode cX11_line 13 = .ok (.iload_n 2, 1) := by decide +kernel
theorem dX11_line_14 : decode cX11_line 14 = .ok (.tableswitch 68 0 3 #[30, 40, 49, 58], 30) := by decide +kernel
theorem dX11_line_44 : decode cX11_line 44 = .ok (.aload_n 0, 1) := by decide +kernel
theorem dX11_line_45 : decode cX11_line 45 = .ok (.getfield 19, 3) := by decide +kernel
theorem dX11_line_48 : decode cX11_line 48 = .ok (.getfield 135, 3) := by decide +kernel
theorem dX11_line_51 : decode cX11_line 51 = .ok (.iload_n 1, 1) := by decide +kernel
theorem dX11_line_52 : decode cX11_line 52 = .ok (.iaload, 1) := by decide +kernel
theorem dX11_line_53 : decode cX11_line 53 = .ok (.ireturn, 1) := by decide +kernel
theorem dX11_line_54 : decode cX11_line 54 = .ok (.aload_n 0, 1) := by decide +kernel
theorem dX11_line_55 : decode cX11_line 55 = .ok (.getfield 47, 3) := by decide +kernel
theorem dX11_line_58 : decode cX11_line 58 = .ok (.iload_n 1, 1) := by decide +kernel
theorem dX11_line_59 : decode cX11_line 59 = .ok (.invokevirtual 139, 3) := by decide +kernel
theorem dX11_line_62 : decode cX11_line 62 = .ok (.ireturn, 1) := by decide +kernel
theorem dX11_line_63 : decode cX11_line 63 = .ok (.aload_n 0, 1) := by decide +kernel
theorem dX11_line_64 : decode cX11_line 64 = .ok (.getfield 47, 3) := by decide +kernel
theorem dX11_line_67 : decode cX11_line 67 = .ok (.iload_n 1, 1) := by decide +kernel
theorem dX11_line_68 : decode cX11_line 68 = .ok (.invokevirtual 143, 3) := by decide +kernel
theorem dX11_line_71 : decode cX11_line 71 = .ok (.ireturn, 1) := by decide +kernel
theorem dX11_line_72 : decode cX11_line 72 = .ok (.aload_n 0, 1) := by decide +kernel
theorem dX11_line_73 : decode cX11_line 73 = .ok (.getfield 19, 3) := by decide +kernel
theorem dX11_line_76 : decode cX11_line 76 = .ok (.getfield 146, 3) := by decide +kernel
theorem dX11_line_79 : decode cX11_line 79 = .ok (.iload_n 1, 1) := by decide +kernel
theorem dX11_line_80 : decode cX11_line 80 = .ok (.iaload, 1) := by decide +kernel
theorem dX11_line_81 : decode cX11_line 81 = .ok (.ireturn, 1) := by decide +kernel
theorem dX11_line_82 : decode cX11_line 82 = .ok (.iconst (-1), 1) := by decide +kernel
theorem dX11_line_83 : decode cX11_line 83 = .ok (.ireturn, 1) := by decide +kernel
noncomputable def FX11_line (a0 : Nat) (p1 : Int32) (p2 : Int32) : PP Int32 := bd (FX7_hasLine (rf a0 1) p1) (fun x1 => if ((b2i x1)) = 0 then pu (-1 : Int32) else tsw p2 [(0 : Int32), (1 : Int32), (2 : Int32), (3 : Int32)] [bd (aI (rf (rf a0 1) 3) 5 p1) (fun x2 => pu x2), bd (FX4_freeOn (rf a0 5) p1) (fun x3 => pu x3), bd (FX4_clothsOn (rf a0 5) p1) (fun x4 => pu x4), bd (aI (rf (rf a0 1) 4) 5 p1) (fun x5 => pu x5)] (pu (-1 : Int32)))
set_option maxHeartbeats 4000000 in
set_option maxRecDepth 100000 in
theorem SX11_line {l : Launch} {K : KK} {n : Nat} {hn : 270 ≤ n} (a0 : Nat) (p1 : Int32) (p2 : Int32) (h0 : ob a0 10) : CT l K n 1 mX11_line [.ref (K.2.1 + a0), .int p1, .int p2] enI (FX11_line a0 p1 p2) := by
  refine CT.of2 (lv2 := [(0, .ref (K.2.1 + a0)), (1, .int p1), (2, .int p2)]) (by decide) rfl hn (Nat.le_of_ble_eq_true rfl) rfl (rp_id ?_)
  unfold FX11_line
  refine rp_aload_n 0 dX11_line_0 rfl ?_
  refine rp_getR fi_X11_19 h0 rfl dX11_line_1 ?_
  refine rp_iload_n 1 dX11_line_4 rfl ?_
  refine rp_callVz [.int p1] (SX7_hasLine (hn := hn) (rf a0 1) p1 (tX11_1 h0)) cvX7_hasLine (mw (i := 783) (by decide +kernel)) (by omega) (tX11_1 h0) (by decide) rfl rfl rfl (Nat.le_of_ble_eq_true rfl) dX11_line_5 (fun x1 => ?_)
  refine rp_if_ne 13 dX11_line_8 (by decide) ?_ ?_
  · refine rp_iload_n 2 dX11_line_13 rfl ?_
    refine rp_tsw [44, 54, 63, 72] 82 dX11_line_14 rfl (by decide +kernel) ?_ ?_
    · refine ⟨?_, ?_, ?_, ?_, trivial⟩
      · refine rp_aload_n 0 dX11_line_44 rfl ?_
        refine rp_getR fi_X11_19 h0 rfl dX11_line_45 ?_
        refine rp_getR fi_X11_135 (tX11_1 h0) rfl dX11_line_48 ?_
        refine rp_iload_n 1 dX11_line_51 rfl ?_
        refine rp_iald (tX7_3 (tX11_1 h0)) dX11_line_52 (fun x2 => ?_)
        exact rp_pu (rp_iret rfl dX11_line_53)
      · refine rp_aload_n 0 dX11_line_54 rfl ?_
        refine rp_getR fi_X11_47 h0 rfl dX11_line_55 ?_
        refine rp_iload_n 1 dX11_line_58 rfl ?_
        refine rp_callVi [.int p1] (SX4_freeOn (hn := hn) (rf a0 5) p1 (tX11_5 h0)) cvX4_freeOn (mw (i := 784) (by decide +kernel)) (by omega) (tX11_5 h0) (by decide) rfl rfl rfl (Nat.le_of_ble_eq_true rfl) dX11_line_59 (fun x3 => ?_)
        exact rp_pu (rp_iret rfl dX11_line_62)
      · refine rp_aload_n 0 dX11_line_63 rfl ?_
        refine rp_getR fi_X11_47 h0 rfl dX11_line_64 ?_
        refine rp_iload_n 1 dX11_line_67 rfl ?_
        refine rp_callVi [.int p1] (SX4_clothsOn (hn := hn) (rf a0 5) p1 (tX11_5 h0)) cvX4_clothsOn (mw (i := 788) (by decide +kernel)) (by omega) (tX11_5 h0) (by decide) rfl rfl rfl (Nat.le_of_ble_eq_true rfl) dX11_line_68 (fun x4 => ?_)
        exact rp_pu (rp_iret rfl dX11_line_71)
      · refine rp_aload_n 0 dX11_line_72 rfl ?_
        refine rp_getR fi_X11_19 h0 rfl dX11_line_73 ?_
        refine rp_getR fi_X11_146 (tX11_1 h0) rfl dX11_line_76 ?_
        refine rp_iload_n 1 dX11_line_79 rfl ?_
        refine rp_iald (tX7_4 (tX11_1 h0)) dX11_line_80 (fun x5 => ?_)
        exact rp_pu (rp_iret rfl dX11_line_81)
    · refine rp_iconst (-1 : Int32) dX11_line_82 (by decide) ?_
      exact rp_pu (rp_iret rfl dX11_line_83)
  · refine rp_iconst (-1 : Int32) dX11_line_11 (by decide) ?_
    exact rp_pu (rp_iret rfl dX11_line_12)

theorem dX11_cloth_0 : decode cX11_cloth 0 = .ok (.aload_n 0, 1) := by decide +kernel
theorem dX11_cloth_1 : decode cX11_cloth 1 = .ok (.getfield 19, 3) := by decide +kernel
theorem dX11_cloth_4 : decode cX11_cloth 4 = .ok (.iload_n 1, 1) := by decide +kernel
theorem dX11_cloth_5 : decode cX11_cloth 5 = .ok (.invokevirtual 149, 3) := by decide +kernel
theorem dX11_cloth_8 : decode cX11_cloth 8 = .ok (.ifCond .ne 6, 3) := by decide +kernel
theorem dX11_cloth_11 : decode cX11_cloth 11 = .ok (.bipush (-2), 2) := by decide +kernel
theorem dX11_cloth_13 : decode cX11_cloth 13 = .ok (.ireturn, 1) := by decide +kernel
theorem dX11_cloth_14 : decode cX11_cloth 14 = .ok (.iload_n 2, 1) := by decide +kernel
theorem dX11_cloth_15 : decode cX11_cloth 15 = .ok (.tableswitch 83 0 4 #[33, 43, 53, 63, 73], 33) := by decide +kernel
theorem dX11_cloth_48 : decode cX11_cloth 48 = .ok (.aload_n 0, 1) := by decide +kernel
theorem dX11_cloth_49 : decode cX11_cloth 49 = .ok (.getfield 19, 3) := by decide +kernel
theorem dX11_cloth_52 : decode cX11_cloth 52 = .ok (.getfield 152, 3) := by decide +kernel
theorem dX11_cloth_55 : decode cX11_cloth 55 = .ok (.iload_n 1, 1) := by decide +kernel
theorem dX11_cloth_56 : decode cX11_cloth 56 = .ok (.iaload, 1) := by decide +kernel
theorem dX11_cloth_57 : decode cX11_cloth 57 = .ok (.ireturn, 1) := by decide +kernel
theorem dX11_cloth_58 : decode cX11_cloth 58 = .ok (.aload_n 0, 1) := by decide +kernel
theorem dX11_cloth_59 : decode cX11_cloth 59 = .ok (.getfield 47, 3) := by decide +kernel
theorem dX11_cloth_62 : decode cX11_cloth 62 = .ok (.getfield 155, 3) := by decide +kernel
theorem dX11_cloth_65 : decode cX11_cloth 65 = .ok (.iload_n 1, 1) := by decide +kernel
theorem dX11_cloth_66 : decode cX11_cloth 66 = .ok (.iaload, 1) := by decide +kernel
theorem dX11_cloth_67 : decode cX11_cloth 67 = .ok (.ireturn, 1) := by decide +kernel
theorem dX11_cloth_68 : decode cX11_cloth 68 = .ok (.aload_n 0, 1) := by decide +kernel
theorem dX11_cloth_69 : decode cX11_cloth 69 = .ok (.getfield 47, 3) := by decide +kernel
theorem dX11_cloth_72 : decode cX11_cloth 72 = .ok (.getfield 158, 3) := by decide +kernel
theorem dX11_cloth_75 : decode cX11_cloth 75 = .ok (.iload_n 1, 1) := by decide +kernel
theorem dX11_cloth_76 : decode cX11_cloth 76 = .ok (.iaload, 1) := by decide +kernel
theorem dX11_cloth_77 : decode cX11_cloth 77 = .ok (.ireturn, 1) := by decide +kernel
theorem dX11_cloth_78 : decode cX11_cloth 78 = .ok (.aload_n 0, 1) := by decide +kernel
theorem dX11_cloth_79 : decode cX11_cloth 79 = .ok (.getfield 47, 3) := by decide +kernel
theorem dX11_cloth_82 : decode cX11_cloth 82 = .ok (.getfield 161, 3) := by decide +kernel
theorem dX11_cloth_85 : decode cX11_cloth 85 = .ok (.iload_n 1, 1) := by decide +kernel
theorem dX11_cloth_86 : decode cX11_cloth 86 = .ok (.iaload, 1) := by decide +kernel
theorem dX11_cloth_87 : decode cX11_cloth 87 = .ok (.ireturn, 1) := by decide +kernel
theorem dX11_cloth_88 : decode cX11_cloth 88 = .ok (.aload_n 0, 1) := by decide +kernel
theorem dX11_cloth_89 : decode cX11_cloth 89 = .ok (.getfield 19, 3) := by decide +kernel
theorem dX11_cloth_92 : decode cX11_cloth 92 = .ok (.getfield 164, 3) := by decide +kernel
theorem dX11_cloth_95 : decode cX11_cloth 95 = .ok (.iload_n 1, 1) := by decide +kernel
theorem dX11_cloth_96 : decode cX11_cloth 96 = .ok (.iaload, 1) := by decide +kernel
theorem dX11_cloth_97 : decode cX11_cloth 97 = .ok (.ireturn, 1) := by decide +kernel
theorem dX11_cloth_98 : decode cX11_cloth 98 = .ok (.bipush (-2), 2) := by decide +kernel
theorem dX11_cloth_100 : decode cX11_cloth 100 = .ok (.ireturn, 1) := by decide +kernel
noncomputable def FX11_cloth (a0 : Nat) (p1 : Int32) (p2 : Int32) : PP Int32 := bd (FX7_hasCloth (rf a0 1) p1) (fun x1 => if ((b2i x1)) = 0 then pu (-2 : Int32) else tsw p2 [(0 : Int32), (1 : Int32), (2 : Int32), (3 : Int32), (4 : Int32)] [bd (aI (rf (rf a0 1) 6) 6 p1) (fun x2 => pu x2), bd (aI (rf (rf a0 5) 1) 6 p1) (fun x3 => pu x3), bd (aI (rf (rf a0 5) 2) 6 p1) (fun x4 => pu x4), bd (aI (rf (rf a0 5) 3) 6 p1) (fun x5 => pu x5), bd (aI (rf (rf a0 1) 7) 6 p1) (fun x6 => pu x6)] (pu (-2 : Int32)))
set_option maxHeartbeats 4000000 in
set_option maxRecDepth 100000 in
theorem SX11_cloth {l : Launch} {K : KK} {n : Nat} {hn : 270 ≤ n} (a0 : Nat) (p1 : Int32) (p2 : Int32) (h0 : ob a0 10) : CT l K n 1 mX11_cloth [.ref (K.2.1 + a0), .int p1, .int p2] enI (FX11_cloth a0 p1 p2) := by
  refine CT.of2 (lv2 := [(0, .ref (K.2.1 + a0)), (1, .int p1), (2, .int p2)]) (by decide) rfl hn (Nat.le_of_ble_eq_true rfl) rfl (rp_id ?_)
  unfold FX11_cloth
  refine rp_aload_n 0 dX11_cloth_0 rfl ?_
  refine rp_getR fi_X11_19 h0 rfl dX11_cloth_1 ?_
  refine rp_iload_n 1 dX11_cloth_4 rfl ?_
  refine rp_callVz [.int p1] (SX7_hasCloth (hn := hn) (rf a0 1) p1 (tX11_1 h0)) cvX7_hasCloth (mw (i := 796) (by decide +kernel)) (by omega) (tX11_1 h0) (by decide) rfl rfl rfl (Nat.le_of_ble_eq_true rfl) dX11_cloth_5 (fun x1 => ?_)
  refine rp_if_ne 14 dX11_cloth_8 (by decide) ?_ ?_
  · refine rp_iload_n 2 dX11_cloth_14 rfl ?_
    refine rp_tsw [48, 58, 68, 78, 88] 98 dX11_cloth_15 rfl (by decide +kernel) ?_ ?_
    · refine ⟨?_, ?_, ?_, ?_, ?_, trivial⟩
      · refine rp_aload_n 0 dX11_cloth_48 rfl ?_
        refine rp_getR fi_X11_19 h0 rfl dX11_cloth_49 ?_
        refine rp_getR fi_X11_152 (tX11_1 h0) rfl dX11_cloth_52 ?_
        refine rp_iload_n 1 dX11_cloth_55 rfl ?_
        refine rp_iald (tX7_6 (tX11_1 h0)) dX11_cloth_56 (fun x2 => ?_)
        exact rp_pu (rp_iret rfl dX11_cloth_57)
      · refine rp_aload_n 0 dX11_cloth_58 rfl ?_
        refine rp_getR fi_X11_47 h0 rfl dX11_cloth_59 ?_
        refine rp_getR fi_X11_155 (tX11_5 h0) rfl dX11_cloth_62 ?_
        refine rp_iload_n 1 dX11_cloth_65 rfl ?_
        refine rp_iald (tX4_1 (tX11_5 h0)) dX11_cloth_66 (fun x3 => ?_)
        exact rp_pu (rp_iret rfl dX11_cloth_67)
      · refine rp_aload_n 0 dX11_cloth_68 rfl ?_
        refine rp_getR fi_X11_47 h0 rfl dX11_cloth_69 ?_
        refine rp_getR fi_X11_158 (tX11_5 h0) rfl dX11_cloth_72 ?_
        refine rp_iload_n 1 dX11_cloth_75 rfl ?_
        refine rp_iald (tX4_2 (tX11_5 h0)) dX11_cloth_76 (fun x4 => ?_)
        exact rp_pu (rp_iret rfl dX11_cloth_77)
      · refine rp_aload_n 0 dX11_cloth_78 rfl ?_
        refine rp_getR fi_X11_47 h0 rfl dX11_cloth_79 ?_
        refine rp_getR fi_X11_161 (tX11_5 h0) rfl dX11_cloth_82 ?_
        refine rp_iload_n 1 dX11_cloth_85 rfl ?_
        refine rp_iald (tX4_3 (tX11_5 h0)) dX11_cloth_86 (fun x5 => ?_)
        exact rp_pu (rp_iret rfl dX11_cloth_87)
      · refine rp_aload_n 0 dX11_cloth_88 rfl ?_
        refine rp_getR fi_X11_19 h0 rfl dX11_cloth_89 ?_
        refine rp_getR fi_X11_164 (tX11_1 h0) rfl dX11_cloth_92 ?_
        refine rp_iload_n 1 dX11_cloth_95 rfl ?_
        refine rp_iald (tX7_7 (tX11_1 h0)) dX11_cloth_96 (fun x6 => ?_)
        exact rp_pu (rp_iret rfl dX11_cloth_97)
    · refine rp_bipush (-2 : Int32) dX11_cloth_98 (by decide) ?_
      exact rp_pu (rp_iret rfl dX11_cloth_100)
  · refine rp_bipush (-2 : Int32) dX11_cloth_11 (by decide) ?_
    exact rp_pu (rp_iret rfl dX11_cloth_13)

theorem dX11_place_0 : decode cX11_place 0 = .ok (.aload_n 0, 1) := by decide +kernel
theorem dX11_place_1 : decode cX11_place 1 = .ok (.getfield 19, 3) := by decide +kernel
theorem dX11_place_4 : decode cX11_place 4 = .ok (.iload_n 1, 1) := by decide +kernel
theorem dX11_place_5 : decode cX11_place 5 = .ok (.invokevirtual 167, 3) := by decide +kernel
theorem dX11_place_8 : decode cX11_place 8 = .ok (.ifCond .ne 6, 3) := by decide +kernel
theorem dX11_place_11 : decode cX11_place 11 = .ok (.bipush (-2), 2) := by decide +kernel
theorem dX11_place_13 : decode cX11_place 13 = .ok (.ireturn, 1) := by decide +kernel
theorem dX11_place_14 : decode cX11_place 14 = .ok (.iload_n 2, 1) := by decide +kernel
theorem dX11_place_15 : decode cX11_place 15 = .ok (.tableswitch 67 0 3 #[29, 39, 48, 57], 29) := by decide +kernel
theorem dX11_place_44 : decode cX11_place 44 = .ok (.aload_n 0, 1) := by decide +kernel
theorem dX11_place_45 : decode cX11_place 45 = .ok (.getfield 47, 3) := by decide +kernel
theorem dX11_place_48 : decode cX11_place 48 = .ok (.iload_n 1, 1) := by decide +kernel
theorem dX11_place_49 : decode cX11_place 49 = .ok (.iconst 0, 1) := by decide +kernel
theorem dX11_place_50 : decode cX11_place 50 = .ok (.invokevirtual 170, 3) := by decide +kernel
theorem dX11_place_53 : decode cX11_place 53 = .ok (.ireturn, 1) := by decide +kernel
theorem dX11_place_54 : decode cX11_place 54 = .ok (.aload_n 0, 1) := by decide +kernel
theorem dX11_place_55 : decode cX11_place 55 = .ok (.getfield 47, 3) := by decide +kernel
theorem dX11_place_58 : decode cX11_place 58 = .ok (.iload_n 1, 1) := by decide +kernel
theorem dX11_place_59 : decode cX11_place 59 = .ok (.invokevirtual 174, 3) := by decide +kernel
theorem dX11_place_62 : decode cX11_place 62 = .ok (.ireturn, 1) := by decide +kernel
theorem dX11_place_63 : decode cX11_place 63 = .ok (.aload_n 0, 1) := by decide +kernel
theorem dX11_place_64 : decode cX11_place 64 = .ok (.getfield 47, 3) := by decide +kernel
theorem dX11_place_67 : decode cX11_place 67 = .ok (.iload_n 1, 1) := by decide +kernel
theorem dX11_place_68 : decode cX11_place 68 = .ok (.invokevirtual 177, 3) := by decide +kernel
theorem dX11_place_71 : decode cX11_place 71 = .ok (.ireturn, 1) := by decide +kernel
theorem dX11_place_72 : decode cX11_place 72 = .ok (.aload_n 0, 1) := by decide +kernel
theorem dX11_place_73 : decode cX11_place 73 = .ok (.getfield 19, 3) := by decide +kernel
theorem dX11_place_76 : decode cX11_place 76 = .ok (.getfield 180, 3) := by decide +kernel
theorem dX11_place_79 : decode cX11_place 79 = .ok (.iload_n 1, 1) := by decide +kernel
theorem dX11_place_80 : decode cX11_place 80 = .ok (.iaload, 1) := by decide +kernel
theorem dX11_place_81 : decode cX11_place 81 = .ok (.ireturn, 1) := by decide +kernel
theorem dX11_place_82 : decode cX11_place 82 = .ok (.bipush (-2), 2) := by decide +kernel
theorem dX11_place_84 : decode cX11_place 84 = .ok (.ireturn, 1) := by decide +kernel
noncomputable def FX11_place (a0 : Nat) (p1 : Int32) (p2 : Int32) : PP Int32 := bd (FX7_hasPlace (rf a0 1) p1) (fun x1 => if ((b2i x1)) = 0 then pu (-2 : Int32) else tsw p2 [(0 : Int32), (1 : Int32), (2 : Int32), (3 : Int32)] [bd (FX4_weather (rf a0 5) p1 (0 : Int32)) (fun x2 => pu x2), bd (FX4_strength (rf a0 5) p1) (fun x3 => pu x3), bd (FX4_wind (rf a0 5) p1) (fun x4 => pu x4), bd (aI (rf (rf a0 1) 5) 4 p1) (fun x5 => pu x5)] (pu (-2 : Int32)))
set_option maxHeartbeats 4000000 in
set_option maxRecDepth 100000 in
theorem SX11_place {l : Launch} {K : KK} {n : Nat} {hn : 270 ≤ n} (a0 : Nat) (p1 : Int32) (p2 : Int32) (h0 : ob a0 10) : CT l K n 3 mX11_place [.ref (K.2.1 + a0), .int p1, .int p2] enI (FX11_place a0 p1 p2) := by
  refine CT.of2 (lv2 := [(0, .ref (K.2.1 + a0)), (1, .int p1), (2, .int p2)]) (by decide) rfl hn (Nat.le_of_ble_eq_true rfl) rfl (rp_id ?_)
  unfold FX11_place
  refine rp_aload_n 0 dX11_place_0 rfl ?_
  refine rp_getR fi_X11_19 h0 rfl dX11_place_1 ?_
  refine rp_iload_n 1 dX11_place_4 rfl ?_
  refine rp_callVz [.int p1] (SX7_hasPlace (hn := hn) (rf a0 1) p1 (tX11_1 h0)) cvX7_hasPlace (mw (i := 804) (by decide +kernel)) (by omega) (tX11_1 h0) (by decide) rfl rfl rfl (Nat.le_of_ble_eq_true rfl) dX11_place_5 (fun x1 => ?_)
  refine rp_if_ne 14 dX11_place_8 (by decide) ?_ ?_
  · refine rp_iload_n 2 dX11_place_14 rfl ?_
    refine rp_tsw [44, 54, 63, 72] 82 dX11_place_15 rfl (by decide +kernel) ?_ ?_
    · refine ⟨?_, ?_, ?_, ?_, trivial⟩
      · refine rp_aload_n 0 dX11_place_44 rfl ?_
        refine rp_getR fi_X11_47 h0 rfl dX11_place_45 ?_
        refine rp_iload_n 1 dX11_place_48 rfl ?_
        refine rp_iconst (0 : Int32) dX11_place_49 (by decide) ?_
        refine rp_callVi [.int p1, .int (0 : Int32)] (SX4_weather (hn := hn) (rf a0 5) p1 (0 : Int32) (tX11_5 h0)) cvX4_weather (mw (i := 808) (by decide +kernel)) (by omega) (tX11_5 h0) (by decide) rfl rfl rfl (Nat.le_of_ble_eq_true rfl) dX11_place_50 (fun x2 => ?_)
        exact rp_pu (rp_iret rfl dX11_place_53)
      · refine rp_aload_n 0 dX11_place_54 rfl ?_
        refine rp_getR fi_X11_47 h0 rfl dX11_place_55 ?_
        refine rp_iload_n 1 dX11_place_58 rfl ?_
        refine rp_callVi [.int p1] (SX4_strength (hn := hn) (rf a0 5) p1 (tX11_5 h0)) cvX4_strength (mw (i := 818) (by decide +kernel)) (by omega) (tX11_5 h0) (by decide) rfl rfl rfl (Nat.le_of_ble_eq_true rfl) dX11_place_59 (fun x3 => ?_)
        exact rp_pu (rp_iret rfl dX11_place_62)
      · refine rp_aload_n 0 dX11_place_63 rfl ?_
        refine rp_getR fi_X11_47 h0 rfl dX11_place_64 ?_
        refine rp_iload_n 1 dX11_place_67 rfl ?_
        refine rp_callVi [.int p1] (SX4_wind (hn := hn) (rf a0 5) p1 (tX11_5 h0)) cvX4_wind (mw (i := 823) (by decide +kernel)) (by omega) (tX11_5 h0) (by decide) rfl rfl rfl (Nat.le_of_ble_eq_true rfl) dX11_place_68 (fun x4 => ?_)
        exact rp_pu (rp_iret rfl dX11_place_71)
      · refine rp_aload_n 0 dX11_place_72 rfl ?_
        refine rp_getR fi_X11_19 h0 rfl dX11_place_73 ?_
        refine rp_getR fi_X11_180 (tX11_1 h0) rfl dX11_place_76 ?_
        refine rp_iload_n 1 dX11_place_79 rfl ?_
        refine rp_iald (tX7_5 (tX11_1 h0)) dX11_place_80 (fun x5 => ?_)
        exact rp_pu (rp_iret rfl dX11_place_81)
    · refine rp_bipush (-2 : Int32) dX11_place_82 (by decide) ?_
      exact rp_pu (rp_iret rfl dX11_place_84)
  · refine rp_bipush (-2 : Int32) dX11_place_11 (by decide) ?_
    exact rp_pu (rp_iret rfl dX11_place_13)

theorem dX11_count_0 : decode cX11_count 0 = .ok (.iload_n 1, 1) := by decide +kernel
theorem dX11_count_1 : decode cX11_count 1 = .ok (.tableswitch 159 0 11 #[63, 71, 79, 87, 95, 103, 111, 119, 127, 135, 143, 151], 63) := by decide +kernel
theorem dX11_count_64 : decode cX11_count 64 = .ok (.aload_n 0, 1) := by decide +kernel
theorem dX11_count_65 : decode cX11_count 65 = .ok (.getfield 19, 3) := by decide +kernel
theorem dX11_count_68 : decode cX11_count 68 = .ok (.getfield 183, 3) := by decide +kernel
theorem dX11_count_71 : decode cX11_count 71 = .ok (.ireturn, 1) := by decide +kernel
theorem dX11_count_72 : decode cX11_count 72 = .ok (.aload_n 0, 1) := by decide +kernel
theorem dX11_count_73 : decode cX11_count 73 = .ok (.getfield 19, 3) := by decide +kernel
theorem dX11_count_76 : decode cX11_count 76 = .ok (.getfield 186, 3) := by decide +kernel
theorem dX11_count_79 : decode cX11_count 79 = .ok (.ireturn, 1) := by decide +kernel
theorem dX11_count_80 : decode cX11_count 80 = .ok (.aload_n 0, 1) := by decide +kernel
theorem dX11_count_81 : decode cX11_count 81 = .ok (.getfield 19, 3) := by decide +kernel
theorem dX11_count_84 : decode cX11_count 84 = .ok (.getfield 189, 3) := by decide +kernel
theorem dX11_count_87 : decode cX11_count 87 = .ok (.ireturn, 1) := by decide +kernel
theorem dX11_count_88 : decode cX11_count 88 = .ok (.aload_n 0, 1) := by decide +kernel
theorem dX11_count_89 : decode cX11_count 89 = .ok (.getfield 47, 3) := by decide +kernel
theorem dX11_count_92 : decode cX11_count 92 = .ok (.getfield 192, 3) := by decide +kernel
theorem dX11_count_95 : decode cX11_count 95 = .ok (.ireturn, 1) := by decide +kernel
theorem dX11_count_96 : decode cX11_count 96 = .ok (.aload_n 0, 1) := by decide +kernel
theorem dX11_count_97 : decode cX11_count 97 = .ok (.getfield 47, 3) := by decide +kernel
theorem dX11_count_100 : decode cX11_count 100 = .ok (.invokevirtual 195, 3) := by decide +kernel
theorem dX11_count_103 : decode cX11_count 103 = .ok (.ireturn, 1) := by decide +kernel
theorem dX11_count_104 : decode cX11_count 104 = .ok (.aload_n 0, 1) := by decide +kernel
theorem dX11_count_105 : decode cX11_count 105 = .ok (.getfield 47, 3) := by decide +kernel
theorem dX11_count_108 : decode cX11_count 108 = .ok (.invokevirtual 198, 3) := by decide +kernel
theorem dX11_count_111 : decode cX11_count 111 = .ok (.ireturn, 1) := by decide +kernel
theorem dX11_count_112 : decode cX11_count 112 = .ok (.aload_n 0, 1) := by decide +kernel
theorem dX11_count_113 : decode cX11_count 113 = .ok (.getfield 47, 3) := by decide +kernel
theorem dX11_count_116 : decode cX11_count 116 = .ok (.invokevirtual 201, 3) := by decide +kernel
theorem dX11_count_119 : decode cX11_count 119 = .ok (.ireturn, 1) := by decide +kernel
theorem dX11_count_120 : decode cX11_count 120 = .ok (.aload_n 0, 1) := by decide +kernel
theorem dX11_count_121 : decode cX11_count 121 = .ok (.getfield 66, 3) := by decide +kernel
theorem dX11_count_124 : decode cX11_count 124 = .ok (.invokevirtual 204, 3) := by decide +kernel
theorem dX11_count_127 : decode cX11_count 127 = .ok (.ireturn, 1) := by decide +kernel
theorem dX11_count_128 : decode cX11_count 128 = .ok (.aload_n 0, 1) := by decide +kernel
theorem dX11_count_129 : decode cX11_count 129 = .ok (.getfield 35, 3) := by decide +kernel
theorem dX11_count_132 : decode cX11_count 132 = .ok (.getfield 119, 3) := by decide +kernel
theorem dX11_count_135 : decode cX11_count 135 = .ok (.ireturn, 1) := by decide +kernel
theorem dX11_count_136 : decode cX11_count 136 = .ok (.aload_n 0, 1) := by decide +kernel
theorem dX11_count_137 : decode cX11_count 137 = .ok (.getfield 73, 3) := by decide +kernel
theorem dX11_count_140 : decode cX11_count 140 = .ok (.getfield 125, 3) := by decide +kernel
theorem dX11_count_143 : decode cX11_count 143 = .ok (.ireturn, 1) := by decide +kernel
theorem dX11_count_144 : decode cX11_count 144 = .ok (.aload_n 0, 1) := by decide +kernel
theorem dX11_count_145 : decode cX11_count 145 = .ok (.getfield 57, 3) := by decide +kernel
theorem dX11_count_148 : decode cX11_count 148 = .ok (.getfield 126, 3) := by decide +kernel
theorem dX11_count_151 : decode cX11_count 151 = .ok (.ireturn, 1) := by decide +kernel
theorem dX11_count_152 : decode cX11_count 152 = .ok (.aload_n 0, 1) := by decide +kernel
theorem dX11_count_153 : decode cX11_count 153 = .ok (.getfield 10, 3) := by decide +kernel
theorem dX11_count_156 : decode cX11_count 156 = .ok (.getfield 92, 3) := by decide +kernel
theorem dX11_count_159 : decode cX11_count 159 = .ok (.ireturn, 1) := by decide +kernel
theorem dX11_count_160 : decode cX11_count 160 = .ok (.iconst (-1), 1) := by decide +kernel
theorem dX11_count_161 : decode cX11_count 161 = .ok (.ireturn, 1) := by decide +kernel
noncomputable def FX11_count (a0 : Nat) (p1 : Int32) : PP Int32 := tsw p1 [(0 : Int32), (1 : Int32), (2 : Int32), (3 : Int32), (4 : Int32), (5 : Int32), (6 : Int32), (7 : Int32), (8 : Int32), (9 : Int32), (10 : Int32), (11 : Int32)] [bd (gI (rf a0 1) 9) (fun x1 => pu x1), bd (gI (rf a0 1) 10) (fun x2 => pu x2), bd (gI (rf a0 1) 11) (fun x3 => pu x3), bd (gI (rf a0 5) 5) (fun x4 => pu x4), bd (FX4_hanging (rf a0 5)) (fun x5 => pu x5), bd (FX4_wetOnes (rf a0 5)) (fun x6 => pu x6), bd (FX4_freeInAll (rf a0 5)) (fun x7 => pu x7), bd (FX9_wantedPlaces (rf a0 8)) (fun x8 => pu x8), bd (gI (rf a0 3) 4) (fun x9 => pu x9), bd (gI (rf a0 9) 3) (fun x10 => pu x10), bd (gI (rf a0 7) 1) (fun x11 => pu x11), bd (gI (rf a0 0) 1) (fun x12 => pu x12)] (pu (-1 : Int32))
set_option maxHeartbeats 4000000 in
set_option maxRecDepth 100000 in
theorem SX11_count {l : Launch} {K : KK} {n : Nat} {hn : 270 ≤ n} (a0 : Nat) (p1 : Int32) (h0 : ob a0 10) : CT l K n 2 mX11_count [.ref (K.2.1 + a0), .int p1] enI (FX11_count a0 p1) := by
  refine CT.of2 (lv2 := [(0, .ref (K.2.1 + a0)), (1, .int p1)]) (by decide) rfl hn (Nat.le_of_ble_eq_true rfl) rfl (rp_id ?_)
  unfold FX11_count
  refine rp_iload_n 1 dX11_count_0 rfl ?_
  refine rp_tsw [64, 72, 80, 88, 96, 104, 112, 120, 128, 136, 144, 152] 160 dX11_count_1 rfl (by decide +kernel) ?_ ?_
  · refine ⟨?_, ?_, ?_, ?_, ?_, ?_, ?_, ?_, ?_, ?_, ?_, ?_, trivial⟩
    · refine rp_aload_n 0 dX11_count_64 rfl ?_
      refine rp_getR fi_X11_19 h0 rfl dX11_count_65 ?_
      refine rp_getI fi_X11_183 (tX11_1 h0) rfl dX11_count_68 (fun x1 => ?_)
      exact rp_pu (rp_iret rfl dX11_count_71)
    · refine rp_aload_n 0 dX11_count_72 rfl ?_
      refine rp_getR fi_X11_19 h0 rfl dX11_count_73 ?_
      refine rp_getI fi_X11_186 (tX11_1 h0) rfl dX11_count_76 (fun x2 => ?_)
      exact rp_pu (rp_iret rfl dX11_count_79)
    · refine rp_aload_n 0 dX11_count_80 rfl ?_
      refine rp_getR fi_X11_19 h0 rfl dX11_count_81 ?_
      refine rp_getI fi_X11_189 (tX11_1 h0) rfl dX11_count_84 (fun x3 => ?_)
      exact rp_pu (rp_iret rfl dX11_count_87)
    · refine rp_aload_n 0 dX11_count_88 rfl ?_
      refine rp_getR fi_X11_47 h0 rfl dX11_count_89 ?_
      refine rp_getI fi_X11_192 (tX11_5 h0) rfl dX11_count_92 (fun x4 => ?_)
      exact rp_pu (rp_iret rfl dX11_count_95)
    · refine rp_aload_n 0 dX11_count_96 rfl ?_
      refine rp_getR fi_X11_47 h0 rfl dX11_count_97 ?_
      refine rp_callVi [] (SX4_hanging (hn := hn) (rf a0 5) (tX11_5 h0)) cvX4_hanging (mw (i := 831) (by decide +kernel)) (by omega) (tX11_5 h0) (by decide) rfl rfl rfl (Nat.le_of_ble_eq_true rfl) dX11_count_100 (fun x5 => ?_)
      exact rp_pu (rp_iret rfl dX11_count_103)
    · refine rp_aload_n 0 dX11_count_104 rfl ?_
      refine rp_getR fi_X11_47 h0 rfl dX11_count_105 ?_
      refine rp_callVi [] (SX4_wetOnes (hn := hn) (rf a0 5) (tX11_5 h0)) cvX4_wetOnes (mw (i := 835) (by decide +kernel)) (by omega) (tX11_5 h0) (by decide) rfl rfl rfl (Nat.le_of_ble_eq_true rfl) dX11_count_108 (fun x6 => ?_)
      exact rp_pu (rp_iret rfl dX11_count_111)
    · refine rp_aload_n 0 dX11_count_112 rfl ?_
      refine rp_getR fi_X11_47 h0 rfl dX11_count_113 ?_
      refine rp_callVi [] (SX4_freeInAll (hn := hn) (rf a0 5) (tX11_5 h0)) cvX4_freeInAll (mw (i := 839) (by decide +kernel)) (by omega) (tX11_5 h0) (by decide) rfl rfl rfl (Nat.le_of_ble_eq_true rfl) dX11_count_116 (fun x7 => ?_)
      exact rp_pu (rp_iret rfl dX11_count_119)
    · refine rp_aload_n 0 dX11_count_120 rfl ?_
      refine rp_getR fi_X11_66 h0 rfl dX11_count_121 ?_
      refine rp_callVi [] (SX9_wantedPlaces (hn := hn) (rf a0 8) (tX11_8 h0)) cvX9_wantedPlaces (mw (i := 844) (by decide +kernel)) (by omega) (tX11_8 h0) (by decide) rfl rfl rfl (Nat.le_of_ble_eq_true rfl) dX11_count_124 (fun x8 => ?_)
      exact rp_pu (rp_iret rfl dX11_count_127)
    · refine rp_aload_n 0 dX11_count_128 rfl ?_
      refine rp_getR fi_X11_35 h0 rfl dX11_count_129 ?_
      refine rp_getI fi_X11_119 (tX11_3 h0) rfl dX11_count_132 (fun x9 => ?_)
      exact rp_pu (rp_iret rfl dX11_count_135)
    · refine rp_aload_n 0 dX11_count_136 rfl ?_
      refine rp_getR fi_X11_73 h0 rfl dX11_count_137 ?_
      refine rp_getI fi_X11_125 (tX11_9 h0) rfl dX11_count_140 (fun x10 => ?_)
      exact rp_pu (rp_iret rfl dX11_count_143)
    · refine rp_aload_n 0 dX11_count_144 rfl ?_
      refine rp_getR fi_X11_57 h0 rfl dX11_count_145 ?_
      refine rp_getI fi_X11_126 (tX11_7 h0) rfl dX11_count_148 (fun x11 => ?_)
      exact rp_pu (rp_iret rfl dX11_count_151)
    · refine rp_aload_n 0 dX11_count_152 rfl ?_
      refine rp_getR fi_X11_10 h0 rfl dX11_count_153 ?_
      refine rp_getI fi_X11_92 (tX11_0 h0) rfl dX11_count_156 (fun x12 => ?_)
      exact rp_pu (rp_iret rfl dX11_count_159)
  · refine rp_iconst (-1 : Int32) dX11_count_160 (by decide) ?_
    exact rp_pu (rp_iret rfl dX11_count_161)

theorem dX11_hang_0 : decode cX11_hang 0 = .ok (.aload_n 0, 1) := by decide +kernel
theorem dX11_hang_1 : decode cX11_hang 1 = .ok (.getfield 47, 3) := by decide +kernel
theorem dX11_hang_4 : decode cX11_hang 4 = .ok (.iload_n 1, 1) := by decide +kernel
theorem dX11_hang_5 : decode cX11_hang 5 = .ok (.iload_n 2, 1) := by decide +kernel
theorem dX11_hang_6 : decode cX11_hang 6 = .ok (.iload_n 3, 1) := by decide +kernel
theorem dX11_hang_7 : decode cX11_hang 7 = .ok (.invokevirtual 207, 3) := by decide +kernel
theorem dX11_hang_10 : decode cX11_hang 10 = .ok (.ifCond .ne 5, 3) := by decide +kernel
theorem dX11_hang_13 : decode cX11_hang 13 = .ok (.iconst (-1), 1) := by decide +kernel
theorem dX11_hang_14 : decode cX11_hang 14 = .ok (.ireturn, 1) := by decide +kernel
theorem dX11_hang_15 : decode cX11_hang 15 = .ok (.aload_n 0, 1) := by decide +kernel
theorem dX11_hang_16 : decode cX11_hang 16 = .ok (.getfield 57, 3) := by decide +kernel
theorem dX11_hang_19 : decode cX11_hang 19 = .ok (.aload_n 0, 1) := by decide +kernel
theorem dX11_hang_20 : decode cX11_hang 20 = .ok (.getfield 47, 3) := by decide +kernel
theorem dX11_hang_23 : decode cX11_hang 23 = .ok (.invokevirtual 211, 3) := by decide +kernel
theorem dX11_hang_26 : decode cX11_hang 26 = .ok (.aload_n 0, 1) := by decide +kernel
theorem dX11_hang_27 : decode cX11_hang 27 = .ok (.getfield 47, 3) := by decide +kernel
theorem dX11_hang_30 : decode cX11_hang 30 = .ok (.iload_n 1, 1) := by decide +kernel
theorem dX11_hang_31 : decode cX11_hang 31 = .ok (.iload_n 2, 1) := by decide +kernel
theorem dX11_hang_32 : decode cX11_hang 32 = .ok (.iload_n 3, 1) := by decide +kernel
theorem dX11_hang_33 : decode cX11_hang 33 = .ok (.invokevirtual 214, 3) := by decide +kernel
theorem dX11_hang_36 : decode cX11_hang 36 = .ok (.aload_n 0, 1) := by decide +kernel
theorem dX11_hang_37 : decode cX11_hang 37 = .ok (.getfield 47, 3) := by decide +kernel
theorem dX11_hang_40 : decode cX11_hang 40 = .ok (.iload_n 2, 1) := by decide +kernel
theorem dX11_hang_41 : decode cX11_hang 41 = .ok (.invokevirtual 139, 3) := by decide +kernel
theorem dX11_hang_44 : decode cX11_hang 44 = .ok (.ireturn, 1) := by decide +kernel
noncomputable def FX11_hang (a0 : Nat) (p1 : Int32) (p2 : Int32) (p3 : Int32) : PP Int32 := bd (FX4_canHang (rf a0 5) p1 p2 p3) (fun x1 => if ((b2i x1)) = 0 then pu (-1 : Int32) else bd (FX2_keep (rf a0 7) (rf a0 5)) (fun (_ : Unit) => bd (FX4_putUp (rf a0 5) p1 p2 p3) (fun (_ : Unit) => bd (FX4_freeOn (rf a0 5) p2) (fun x4 => pu x4))))
set_option maxHeartbeats 4000000 in
set_option maxRecDepth 100000 in
theorem SX11_hang {l : Launch} {K : KK} {n : Nat} {hn : 270 ≤ n} (a0 : Nat) (p1 : Int32) (p2 : Int32) (p3 : Int32) (h0 : ob a0 10) : CT l K n 3 mX11_hang [.ref (K.2.1 + a0), .int p1, .int p2, .int p3] enI (FX11_hang a0 p1 p2 p3) := by
  refine CT.of2 (lv2 := [(0, .ref (K.2.1 + a0)), (1, .int p1), (2, .int p2), (3, .int p3)]) (by decide) rfl hn (Nat.le_of_ble_eq_true rfl) rfl (rp_id ?_)
  unfold FX11_hang
  refine rp_aload_n 0 dX11_hang_0 rfl ?_
  refine rp_getR fi_X11_47 h0 rfl dX11_hang_1 ?_
  refine rp_iload_n 1 dX11_hang_4 rfl ?_
  refine rp_iload_n 2 dX11_hang_5 rfl ?_
  refine rp_iload_n 3 dX11_hang_6 rfl ?_
  refine rp_callVz [.int p1, .int p2, .int p3] (SX4_canHang (hn := hn) (rf a0 5) p1 p2 p3 (tX11_5 h0)) cvX4_canHang (mw (i := 852) (by decide +kernel)) (by omega) (tX11_5 h0) (by decide) rfl rfl rfl (Nat.le_of_ble_eq_true rfl) dX11_hang_7 (fun x1 => ?_)
  refine rp_if_ne 15 dX11_hang_10 (by decide) ?_ ?_
  · refine rp_aload_n 0 dX11_hang_15 rfl ?_
    refine rp_getR fi_X11_57 h0 rfl dX11_hang_16 ?_
    refine rp_aload_n 0 dX11_hang_19 rfl ?_
    refine rp_getR fi_X11_47 h0 rfl dX11_hang_20 ?_
    refine rp_callVv [.ref (K.2.1 + (rf a0 5))] (SX2_keep (hn := hn) (rf a0 7) (rf a0 5) (tX11_7 h0) (tX11_5 h0)) cvX2_keep (mw (i := 862) (by decide +kernel)) (by omega) (tX11_7 h0) (by decide) rfl rfl rfl (Nat.le_of_ble_eq_true rfl) dX11_hang_23 (fun x2 => ?_)
    refine rp_aload_n 0 dX11_hang_26 rfl ?_
    refine rp_getR fi_X11_47 h0 rfl dX11_hang_27 ?_
    refine rp_iload_n 1 dX11_hang_30 rfl ?_
    refine rp_iload_n 2 dX11_hang_31 rfl ?_
    refine rp_iload_n 3 dX11_hang_32 rfl ?_
    refine rp_callVv [.int p1, .int p2, .int p3] (SX4_putUp (hn := hn) (rf a0 5) p1 p2 p3 (tX11_5 h0)) cvX4_putUp (mw (i := 872) (by decide +kernel)) (by omega) (tX11_5 h0) (by decide) rfl rfl rfl (Nat.le_of_ble_eq_true rfl) dX11_hang_33 (fun x3 => ?_)
    refine rp_aload_n 0 dX11_hang_36 rfl ?_
    refine rp_getR fi_X11_47 h0 rfl dX11_hang_37 ?_
    refine rp_iload_n 2 dX11_hang_40 rfl ?_
    refine rp_callVi [.int p2] (SX4_freeOn (hn := hn) (rf a0 5) p2 (tX11_5 h0)) cvX4_freeOn (mw (i := 784) (by decide +kernel)) (by omega) (tX11_5 h0) (by decide) rfl rfl rfl (Nat.le_of_ble_eq_true rfl) dX11_hang_41 (fun x4 => ?_)
    exact rp_pu (rp_iret rfl dX11_hang_44)
  · refine rp_iconst (-1 : Int32) dX11_hang_13 (by decide) ?_
    exact rp_pu (rp_iret rfl dX11_hang_14)

theorem dX11_take_0 : decode cX11_take 0 = .ok (.aload_n 0, 1) := by decide +kernel
theorem dX11_take_1 : decode cX11_take 1 = .ok (.getfield 47, 3) := by decide +kernel
theorem dX11_take_4 : decode cX11_take 4 = .ok (.iload_n 1, 1) := by decide +kernel
theorem dX11_take_5 : decode cX11_take 5 = .ok (.invokevirtual 218, 3) := by decide +kernel
theorem dX11_take_8 : decode cX11_take 8 = .ok (.ifCond .ne 5, 3) := by decide +kernel
theorem dX11_take_11 : decode cX11_take 11 = .ok (.iconst (-1), 1) := by decide +kernel
theorem dX11_take_12 : decode cX11_take 12 = .ok (.ireturn, 1) := by decide +kernel
theorem dX11_take_13 : decode cX11_take 13 = .ok (.aload_n 0, 1) := by decide +kernel
theorem dX11_take_14 : decode cX11_take 14 = .ok (.getfield 57, 3) := by decide +kernel
theorem dX11_take_17 : decode cX11_take 17 = .ok (.aload_n 0, 1) := by decide +kernel
theorem dX11_take_18 : decode cX11_take 18 = .ok (.getfield 47, 3) := by decide +kernel
theorem dX11_take_21 : decode cX11_take 21 = .ok (.invokevirtual 211, 3) := by decide +kernel
theorem dX11_take_24 : decode cX11_take 24 = .ok (.aload_n 0, 1) := by decide +kernel
theorem dX11_take_25 : decode cX11_take 25 = .ok (.getfield 47, 3) := by decide +kernel
theorem dX11_take_28 : decode cX11_take 28 = .ok (.iload_n 1, 1) := by decide +kernel
theorem dX11_take_29 : decode cX11_take 29 = .ok (.invokevirtual 221, 3) := by decide +kernel
theorem dX11_take_32 : decode cX11_take 32 = .ok (.aload_n 0, 1) := by decide +kernel
theorem dX11_take_33 : decode cX11_take 33 = .ok (.getfield 47, 3) := by decide +kernel
theorem dX11_take_36 : decode cX11_take 36 = .ok (.getfield 155, 3) := by decide +kernel
theorem dX11_take_39 : decode cX11_take 39 = .ok (.iload_n 1, 1) := by decide +kernel
theorem dX11_take_40 : decode cX11_take 40 = .ok (.iaload, 1) := by decide +kernel
theorem dX11_take_41 : decode cX11_take 41 = .ok (.ireturn, 1) := by decide +kernel
noncomputable def FX11_take (a0 : Nat) (p1 : Int32) : PP Int32 := bd (FX4_hangs (rf a0 5) p1) (fun x1 => if ((b2i x1)) = 0 then pu (-1 : Int32) else bd (FX2_keep (rf a0 7) (rf a0 5)) (fun (_ : Unit) => bd (FX4_putDown (rf a0 5) p1) (fun (_ : Unit) => bd (aI (rf (rf a0 5) 1) 6 p1) (fun x4 => pu x4))))
set_option maxHeartbeats 4000000 in
set_option maxRecDepth 100000 in
theorem SX11_take {l : Launch} {K : KK} {n : Nat} {hn : 270 ≤ n} (a0 : Nat) (p1 : Int32) (h0 : ob a0 10) : CT l K n 3 mX11_take [.ref (K.2.1 + a0), .int p1] enI (FX11_take a0 p1) := by
  refine CT.of2 (lv2 := [(0, .ref (K.2.1 + a0)), (1, .int p1)]) (by decide) rfl hn (Nat.le_of_ble_eq_true rfl) rfl (rp_id ?_)
  unfold FX11_take
  refine rp_aload_n 0 dX11_take_0 rfl ?_
  refine rp_getR fi_X11_47 h0 rfl dX11_take_1 ?_
  refine rp_iload_n 1 dX11_take_4 rfl ?_
  refine rp_callVz [.int p1] (SX4_hangs (hn := hn) (rf a0 5) p1 (tX11_5 h0)) cvX4_hangs (mw (i := 880) (by decide +kernel)) (by omega) (tX11_5 h0) (by decide) rfl rfl rfl (Nat.le_of_ble_eq_true rfl) dX11_take_5 (fun x1 => ?_)
  refine rp_if_ne 13 dX11_take_8 (by decide) ?_ ?_
  · refine rp_aload_n 0 dX11_take_13 rfl ?_
    refine rp_getR fi_X11_57 h0 rfl dX11_take_14 ?_
    refine rp_aload_n 0 dX11_take_17 rfl ?_
    refine rp_getR fi_X11_47 h0 rfl dX11_take_18 ?_
    refine rp_callVv [.ref (K.2.1 + (rf a0 5))] (SX2_keep (hn := hn) (rf a0 7) (rf a0 5) (tX11_7 h0) (tX11_5 h0)) cvX2_keep (mw (i := 862) (by decide +kernel)) (by omega) (tX11_7 h0) (by decide) rfl rfl rfl (Nat.le_of_ble_eq_true rfl) dX11_take_21 (fun x2 => ?_)
    refine rp_aload_n 0 dX11_take_24 rfl ?_
    refine rp_getR fi_X11_47 h0 rfl dX11_take_25 ?_
    refine rp_iload_n 1 dX11_take_28 rfl ?_
    refine rp_callVv [.int p1] (SX4_putDown (hn := hn) (rf a0 5) p1 (tX11_5 h0)) cvX4_putDown (mw (i := 884) (by decide +kernel)) (by omega) (tX11_5 h0) (by decide) rfl rfl rfl (Nat.le_of_ble_eq_true rfl) dX11_take_29 (fun x3 => ?_)
    refine rp_aload_n 0 dX11_take_32 rfl ?_
    refine rp_getR fi_X11_47 h0 rfl dX11_take_33 ?_
    refine rp_getR fi_X11_155 (tX11_5 h0) rfl dX11_take_36 ?_
    refine rp_iload_n 1 dX11_take_39 rfl ?_
    refine rp_iald (tX4_1 (tX11_5 h0)) dX11_take_40 (fun x4 => ?_)
    exact rp_pu (rp_iret rfl dX11_take_41)
  · refine rp_iconst (-1 : Int32) dX11_take_11 (by decide) ?_
    exact rp_pu (rp_iret rfl dX11_take_12)

theorem dX11_wash_0 : decode cX11_wash 0 = .ok (.aload_n 0, 1) := by decide +kernel
theorem dX11_wash_1 : decode cX11_wash 1 = .ok (.getfield 47, 3) := by decide +kernel
theorem dX11_wash_4 : decode cX11_wash 4 = .ok (.iload_n 1, 1) := by decide +kernel
theorem dX11_wash_5 : decode cX11_wash 5 = .ok (.invokevirtual 225, 3) := by decide +kernel
theorem dX11_wash_8 : decode cX11_wash 8 = .ok (.ifCond .ne 5, 3) := by decide +kernel
theorem dX11_wash_11 : decode cX11_wash 11 = .ok (.iconst 0, 1) := by decide +kernel
theorem dX11_wash_12 : decode cX11_wash 12 = .ok (.ireturn, 1) := by decide +kernel
theorem dX11_wash_13 : decode cX11_wash 13 = .ok (.aload_n 0, 1) := by decide +kernel
theorem dX11_wash_14 : decode cX11_wash 14 = .ok (.getfield 57, 3) := by decide +kernel
theorem dX11_wash_17 : decode cX11_wash 17 = .ok (.aload_n 0, 1) := by decide +kernel
theorem dX11_wash_18 : decode cX11_wash 18 = .ok (.getfield 47, 3) := by decide +kernel
theorem dX11_wash_21 : decode cX11_wash 21 = .ok (.invokevirtual 211, 3) := by decide +kernel
theorem dX11_wash_24 : decode cX11_wash 24 = .ok (.aload_n 0, 1) := by decide +kernel
theorem dX11_wash_25 : decode cX11_wash 25 = .ok (.getfield 47, 3) := by decide +kernel
theorem dX11_wash_28 : decode cX11_wash 28 = .ok (.iload_n 1, 1) := by decide +kernel
theorem dX11_wash_29 : decode cX11_wash 29 = .ok (.invokevirtual 228, 3) := by decide +kernel
theorem dX11_wash_32 : decode cX11_wash 32 = .ok (.iconst 1, 1) := by decide +kernel
theorem dX11_wash_33 : decode cX11_wash 33 = .ok (.ireturn, 1) := by decide +kernel
noncomputable def FX11_wash (a0 : Nat) (p1 : Int32) : PP Bool := bd (FX4_lies (rf a0 5) p1) (fun x1 => if ((b2i x1)) = 0 then zb (0 : Int32) else bd (FX2_keep (rf a0 7) (rf a0 5)) (fun (_ : Unit) => bd (FX4_soak (rf a0 5) p1) (fun (_ : Unit) => zb (1 : Int32))))
set_option maxHeartbeats 4000000 in
set_option maxRecDepth 100000 in
theorem SX11_wash {l : Launch} {K : KK} {n : Nat} {hn : 270 ≤ n} (a0 : Nat) (p1 : Int32) (h0 : ob a0 10) : CT l K n 3 mX11_wash [.ref (K.2.1 + a0), .int p1] enZ (FX11_wash a0 p1) := by
  refine CT.of2 (lv2 := [(0, .ref (K.2.1 + a0)), (1, .int p1)]) (by decide) rfl hn (Nat.le_of_ble_eq_true rfl) rfl (rp_id ?_)
  unfold FX11_wash
  refine rp_aload_n 0 dX11_wash_0 rfl ?_
  refine rp_getR fi_X11_47 h0 rfl dX11_wash_1 ?_
  refine rp_iload_n 1 dX11_wash_4 rfl ?_
  refine rp_callVz [.int p1] (SX4_lies (hn := hn) (rf a0 5) p1 (tX11_5 h0)) cvX4_lies (mw (i := 892) (by decide +kernel)) (by omega) (tX11_5 h0) (by decide) rfl rfl rfl (Nat.le_of_ble_eq_true rfl) dX11_wash_5 (fun x1 => ?_)
  refine rp_if_ne 13 dX11_wash_8 (by decide) ?_ ?_
  · refine rp_aload_n 0 dX11_wash_13 rfl ?_
    refine rp_getR fi_X11_57 h0 rfl dX11_wash_14 ?_
    refine rp_aload_n 0 dX11_wash_17 rfl ?_
    refine rp_getR fi_X11_47 h0 rfl dX11_wash_18 ?_
    refine rp_callVv [.ref (K.2.1 + (rf a0 5))] (SX2_keep (hn := hn) (rf a0 7) (rf a0 5) (tX11_7 h0) (tX11_5 h0)) cvX2_keep (mw (i := 862) (by decide +kernel)) (by omega) (tX11_7 h0) (by decide) rfl rfl rfl (Nat.le_of_ble_eq_true rfl) dX11_wash_21 (fun x2 => ?_)
    refine rp_aload_n 0 dX11_wash_24 rfl ?_
    refine rp_getR fi_X11_47 h0 rfl dX11_wash_25 ?_
    refine rp_iload_n 1 dX11_wash_28 rfl ?_
    refine rp_callVv [.int p1] (SX4_soak (hn := hn) (rf a0 5) p1 (tX11_5 h0)) cvX4_soak (mw (i := 893) (by decide +kernel)) (by omega) (tX11_5 h0) (by decide) rfl rfl rfl (Nat.le_of_ble_eq_true rfl) dX11_wash_29 (fun x3 => ?_)
    refine rp_iconst (1 : Int32) dX11_wash_32 (by decide) ?_
    exact rp_zretb rfl dX11_wash_33
  · refine rp_iconst (0 : Int32) dX11_wash_11 (by decide) ?_
    exact rp_zretb rfl dX11_wash_12

theorem dX11_hour_0 : decode cX11_hour 0 = .ok (.aload_n 0, 1) := by decide +kernel
theorem dX11_hour_1 : decode cX11_hour 1 = .ok (.getfield 57, 3) := by decide +kernel
theorem dX11_hour_4 : decode cX11_hour 4 = .ok (.aload_n 0, 1) := by decide +kernel
theorem dX11_hour_5 : decode cX11_hour 5 = .ok (.getfield 47, 3) := by decide +kernel
theorem dX11_hour_8 : decode cX11_hour 8 = .ok (.invokevirtual 211, 3) := by decide +kernel
theorem dX11_hour_11 : decode cX11_hour 11 = .ok (.aload_n 0, 1) := by decide +kernel
theorem dX11_hour_12 : decode cX11_hour 12 = .ok (.getfield 47, 3) := by decide +kernel
theorem dX11_hour_15 : decode cX11_hour 15 = .ok (.iconst 1, 1) := by decide +kernel
theorem dX11_hour_16 : decode cX11_hour 16 = .ok (.invokevirtual 231, 3) := by decide +kernel
theorem dX11_hour_19 : decode cX11_hour 19 = .ok (.ireturn, 1) := by decide +kernel
noncomputable def FX11_hour (a0 : Nat) : PP Int32 := bd (FX2_keep (rf a0 7) (rf a0 5)) (fun (_ : Unit) => bd (FX4_passHour (rf a0 5) (1 : Int32)) (fun x2 => pu x2))
set_option maxHeartbeats 4000000 in
set_option maxRecDepth 100000 in
theorem SX11_hour {l : Launch} {K : KK} {n : Nat} {hn : 270 ≤ n} (a0 : Nat) (h0 : ob a0 10) : CT l K n 3 mX11_hour [.ref (K.2.1 + a0)] enI (FX11_hour a0) := by
  refine CT.of2 (lv2 := [(0, .ref (K.2.1 + a0))]) (by decide) rfl hn (Nat.le_of_ble_eq_true rfl) rfl (rp_id ?_)
  unfold FX11_hour
  refine rp_aload_n 0 dX11_hour_0 rfl ?_
  refine rp_getR fi_X11_57 h0 rfl dX11_hour_1 ?_
  refine rp_aload_n 0 dX11_hour_4 rfl ?_
  refine rp_getR fi_X11_47 h0 rfl dX11_hour_5 ?_
  refine rp_callVv [.ref (K.2.1 + (rf a0 5))] (SX2_keep (hn := hn) (rf a0 7) (rf a0 5) (tX11_7 h0) (tX11_5 h0)) cvX2_keep (mw (i := 862) (by decide +kernel)) (by omega) (tX11_7 h0) (by decide) rfl rfl rfl (Nat.le_of_ble_eq_true rfl) dX11_hour_8 (fun x1 => ?_)
  refine rp_aload_n 0 dX11_hour_11 rfl ?_
  refine rp_getR fi_X11_47 h0 rfl dX11_hour_12 ?_
  refine rp_iconst (1 : Int32) dX11_hour_15 (by decide) ?_
  refine rp_callVi [.int (1 : Int32)] (SX4_passHour (hn := hn) (rf a0 5) (1 : Int32) (tX11_5 h0)) cvX4_passHour (mw (i := 901) (by decide +kernel)) (by omega) (tX11_5 h0) (by decide) rfl rfl rfl (Nat.le_of_ble_eq_true rfl) dX11_hour_16 (fun x2 => ?_)
  exact rp_pu (rp_iret rfl dX11_hour_19)

theorem dX11_undo_0 : decode cX11_undo 0 = .ok (.aload_n 0, 1) := by decide +kernel
theorem dX11_undo_1 : decode cX11_undo 1 = .ok (.getfield 57, 3) := by decide +kernel
theorem dX11_undo_4 : decode cX11_undo 4 = .ok (.aload_n 0, 1) := by decide +kernel
theorem dX11_undo_5 : decode cX11_undo 5 = .ok (.getfield 47, 3) := by decide +kernel
theorem dX11_undo_8 : decode cX11_undo 8 = .ok (.invokevirtual 235, 3) := by decide +kernel
theorem dX11_undo_11 : decode cX11_undo 11 = .ok (.ireturn, 1) := by decide +kernel
noncomputable def FX11_undo (a0 : Nat) : PP Bool := bd (FX2_bringBack (rf a0 7) (rf a0 5)) (fun x1 => zb ((b2i x1)))
set_option maxHeartbeats 4000000 in
set_option maxRecDepth 100000 in
theorem SX11_undo {l : Launch} {K : KK} {n : Nat} {hn : 270 ≤ n} (a0 : Nat) (h0 : ob a0 10) : CT l K n 3 mX11_undo [.ref (K.2.1 + a0)] enZ (FX11_undo a0) := by
  refine CT.of2 (lv2 := [(0, .ref (K.2.1 + a0))]) (by decide) rfl hn (Nat.le_of_ble_eq_true rfl) rfl (rp_id ?_)
  unfold FX11_undo
  refine rp_aload_n 0 dX11_undo_0 rfl ?_
  refine rp_getR fi_X11_57 h0 rfl dX11_undo_1 ?_
  refine rp_aload_n 0 dX11_undo_4 rfl ?_
  refine rp_getR fi_X11_47 h0 rfl dX11_undo_5 ?_
  refine rp_callVz [.ref (K.2.1 + (rf a0 5))] (SX2_bringBack (hn := hn) (rf a0 7) (rf a0 5) (tX11_7 h0) (tX11_5 h0)) cvX2_bringBack (mw (i := 926) (by decide +kernel)) (by omega) (tX11_7 h0) (by decide) rfl rfl rfl (Nat.le_of_ble_eq_true rfl) dX11_undo_8 (fun x1 => ?_)
  exact rp_zretb rfl dX11_undo_11

theorem dX11_mark_0 : decode cX11_mark 0 = .ok (.iload_n 1, 1) := by decide +kernel
theorem dX11_mark_1 : decode cX11_mark 1 = .ok (.ifCond .lt 12, 3) := by decide +kernel
theorem dX11_mark_4 : decode cX11_mark 4 = .ok (.iload_n 1, 1) := by decide +kernel
theorem dX11_mark_5 : decode cX11_mark 5 = .ok (.aload_n 0, 1) := by decide +kernel
theorem dX11_mark_6 : decode cX11_mark 6 = .ok (.getfield 79, 3) := by decide +kernel
theorem dX11_mark_9 : decode cX11_mark 9 = .ok (.arraylength, 1) := by decide +kernel
theorem dX11_mark_10 : decode cX11_mark 10 = .ok (.if_icmp .lt 5, 3) := by decide +kernel
theorem dX11_mark_13 : decode cX11_mark 13 = .ok (.iconst 0, 1) := by decide +kernel
theorem dX11_mark_14 : decode cX11_mark 14 = .ok (.ireturn, 1) := by decide +kernel
theorem dX11_mark_15 : decode cX11_mark 15 = .ok (.aload_n 0, 1) := by decide +kernel
theorem dX11_mark_16 : decode cX11_mark 16 = .ok (.getfield 79, 3) := by decide +kernel
theorem dX11_mark_19 : decode cX11_mark 19 = .ok (.iload_n 1, 1) := by decide +kernel
theorem dX11_mark_20 : decode cX11_mark 20 = .ok (.aaload, 1) := by decide +kernel
theorem dX11_mark_21 : decode cX11_mark 21 = .ok (.astore_n 3, 1) := by decide +kernel
theorem dX11_mark_22 : decode cX11_mark 22 = .ok (.iload_n 2, 1) := by decide +kernel
theorem dX11_mark_23 : decode cX11_mark 23 = .ok (.ifCond .ne 21, 3) := by decide +kernel
theorem dX11_mark_26 : decode cX11_mark 26 = .ok (.aload_n 3, 1) := by decide +kernel
theorem dX11_mark_27 : decode cX11_mark 27 = .ok (.aload_n 0, 1) := by decide +kernel
theorem dX11_mark_28 : decode cX11_mark 28 = .ok (.getfield 47, 3) := by decide +kernel
theorem dX11_mark_31 : decode cX11_mark 31 = .ok (.aload_n 0, 1) := by decide +kernel
theorem dX11_mark_32 : decode cX11_mark 32 = .ok (.getfield 66, 3) := by decide +kernel
theorem dX11_mark_35 : decode cX11_mark 35 = .ok (.aload_n 0, 1) := by decide +kernel
theorem dX11_mark_36 : decode cX11_mark 36 = .ok (.getfield 73, 3) := by decide +kernel
theorem dX11_mark_39 : decode cX11_mark 39 = .ok (.invokevirtual 239, 3) := by decide +kernel
theorem dX11_mark_42 : decode cX11_mark 42 = .ok (.iconst 1, 1) := by decide +kernel
theorem dX11_mark_43 : decode cX11_mark 43 = .ok (.ireturn, 1) := by decide +kernel
theorem dX11_mark_44 : decode cX11_mark 44 = .ok (.aload_n 3, 1) := by decide +kernel
theorem dX11_mark_45 : decode cX11_mark 45 = .ok (.getfield 127, 3) := by decide +kernel
theorem dX11_mark_48 : decode cX11_mark 48 = .ok (.ifCond .ne 5, 3) := by decide +kernel
theorem dX11_mark_51 : decode cX11_mark 51 = .ok (.iconst 0, 1) := by decide +kernel
theorem dX11_mark_52 : decode cX11_mark 52 = .ok (.ireturn, 1) := by decide +kernel
theorem dX11_mark_53 : decode cX11_mark 53 = .ok (.aload_n 3, 1) := by decide +kernel
theorem dX11_mark_54 : decode cX11_mark 54 = .ok (.aload_n 0, 1) := by decide +kernel
theorem dX11_mark_55 : decode cX11_mark 55 = .ok (.getfield 47, 3) := by decide +kernel
theorem dX11_mark_58 : decode cX11_mark 58 = .ok (.aload_n 0, 1) := by decide +kernel
theorem dX11_mark_59 : decode cX11_mark 59 = .ok (.getfield 66, 3) := by decide +kernel
theorem dX11_mark_62 : decode cX11_mark 62 = .ok (.aload_n 0, 1) := by decide +kernel
theorem dX11_mark_63 : decode cX11_mark 63 = .ok (.getfield 73, 3) := by decide +kernel
theorem dX11_mark_66 : decode cX11_mark 66 = .ok (.invokevirtual 243, 3) := by decide +kernel
theorem dX11_mark_69 : decode cX11_mark 69 = .ok (.aload_n 0, 1) := by decide +kernel
theorem dX11_mark_70 : decode cX11_mark 70 = .ok (.getfield 57, 3) := by decide +kernel
theorem dX11_mark_73 : decode cX11_mark 73 = .ok (.iconst 0, 1) := by decide +kernel
theorem dX11_mark_74 : decode cX11_mark 74 = .ok (.putfield 126, 3) := by decide +kernel
theorem dX11_mark_77 : decode cX11_mark 77 = .ok (.iconst 1, 1) := by decide +kernel
theorem dX11_mark_78 : decode cX11_mark 78 = .ok (.ireturn, 1) := by decide +kernel
noncomputable def FX11_mark (a0 : Nat) (p1 : Int32) (p2 : Int32) : PP Bool := if p1 < 0 then zb (0 : Int32) else if p1 < (4 : Int32) then bd (gd (ib p1 4 = true)) (fun (_ : Unit) => if p2 = 0 then bd (FX1_lay (rf (rf a0 10) p1.toNatClampNeg) (rf a0 5) (rf a0 8) (rf a0 9)) (fun (_ : Unit) => zb (1 : Int32)) else bd (gI (rf (rf a0 10) p1.toNatClampNeg) 3) (fun x2 => if x2 = 0 then zb (0 : Int32) else bd (FX1_goBack (rf (rf a0 10) p1.toNatClampNeg) (rf a0 5) (rf a0 8) (rf a0 9)) (fun (_ : Unit) => bd (sI (rf a0 7) 1 (0 : Int32)) (fun (_ : Unit) => zb (1 : Int32))))) else zb (0 : Int32)
set_option maxHeartbeats 4000000 in
set_option maxRecDepth 100000 in
theorem SX11_mark {l : Launch} {K : KK} {n : Nat} {hn : 270 ≤ n} (a0 : Nat) (p1 : Int32) (p2 : Int32) (h0 : ob a0 10) : CT l K n 3 mX11_mark [.ref (K.2.1 + a0), .int p1, .int p2] enZ (FX11_mark a0 p1 p2) := by
  refine CT.of2 (lv2 := [(0, .ref (K.2.1 + a0)), (1, .int p1), (2, .int p2)]) (by decide) rfl hn (Nat.le_of_ble_eq_true rfl) rfl (rp_id ?_)
  unfold FX11_mark
  refine rp_iload_n 1 dX11_mark_0 rfl ?_
  refine rp_if_lt 13 dX11_mark_1 (by decide) ?_ ?_
  · refine rp_iconst (0 : Int32) dX11_mark_13 (by decide) ?_
    exact rp_zretb rfl dX11_mark_14
  · refine rp_iload_n 1 dX11_mark_4 rfl ?_
    refine rp_aload_n 0 dX11_mark_5 rfl ?_
    refine rp_getR fi_X11_79 h0 rfl dX11_mark_6 ?_
    refine rp_alen (v := (4 : Int32)) (tX11_10 h0) rfl rfl dX11_mark_9 ?_
    refine rp_icmp_lt 15 dX11_mark_10 (by decide) ?_ ?_
    · refine rp_aload_n 0 dX11_mark_15 rfl ?_
      refine rp_getR fi_X11_79 h0 rfl dX11_mark_16 ?_
      refine rp_iload_n 1 dX11_mark_19 rfl ?_
      refine rp_aald (tX11_10 h0) (Or.inr rfl) dX11_mark_20 (fun hb1 => ?_)
      refine rp_astore_n [(3, .ref (K.2.1 + (rf (rf a0 10) p1.toNatClampNeg))), (0, .ref (K.2.1 + a0)), (1, .int p1), (2, .int p2)] dX11_mark_21 (by decide) rfl ?_
      refine rp_iload_n 3 dX11_mark_22 rfl ?_
      refine rp_if_ne 44 dX11_mark_23 (by decide) ?_ ?_
      · refine rp_aload_n 0 dX11_mark_44 rfl ?_
        refine rp_getI fi_X11_127 (arr5 (tX11_10 h0) hb1) rfl dX11_mark_45 (fun x2 => ?_)
        refine rp_if_ne 53 dX11_mark_48 (by decide) ?_ ?_
        · refine rp_aload_n 0 dX11_mark_53 rfl ?_
          refine rp_aload_n 1 dX11_mark_54 rfl ?_
          refine rp_getR fi_X11_47 h0 rfl dX11_mark_55 ?_
          refine rp_aload_n 1 dX11_mark_58 rfl ?_
          refine rp_getR fi_X11_66 h0 rfl dX11_mark_59 ?_
          refine rp_aload_n 1 dX11_mark_62 rfl ?_
          refine rp_getR fi_X11_73 h0 rfl dX11_mark_63 ?_
          refine rp_callVv [.ref (K.2.1 + (rf a0 5)), .ref (K.2.1 + (rf a0 8)), .ref (K.2.1 + (rf a0 9))] (SX1_goBack (hn := hn) (rf (rf a0 10) p1.toNatClampNeg) (rf a0 5) (rf a0 8) (rf a0 9) (arr5 (tX11_10 h0) hb1) (tX11_5 h0) (tX11_8 h0) (tX11_9 h0)) cvX1_goBack (mw (i := 945) (by decide +kernel)) (by omega) (arr5 (tX11_10 h0) hb1) (by decide) rfl rfl rfl (Nat.le_of_ble_eq_true rfl) dX11_mark_66 (fun x3 => ?_)
          refine rp_aload_n 1 dX11_mark_69 rfl ?_
          refine rp_getR fi_X11_57 h0 rfl dX11_mark_70 ?_
          refine rp_iconst (0 : Int32) dX11_mark_73 (by decide) ?_
          refine rp_putI fi_X11_126 fp_X2_1 (tX11_7 h0) rfl dX11_mark_74 ?_
          refine rp_iconst (1 : Int32) dX11_mark_77 (by decide) ?_
          exact rp_zretb rfl dX11_mark_78
        · refine rp_iconst (0 : Int32) dX11_mark_51 (by decide) ?_
          exact rp_zretb rfl dX11_mark_52
      · refine rp_aload_n 0 dX11_mark_26 rfl ?_
        refine rp_aload_n 1 dX11_mark_27 rfl ?_
        refine rp_getR fi_X11_47 h0 rfl dX11_mark_28 ?_
        refine rp_aload_n 1 dX11_mark_31 rfl ?_
        refine rp_getR fi_X11_66 h0 rfl dX11_mark_32 ?_
        refine rp_aload_n 1 dX11_mark_35 rfl ?_
        refine rp_getR fi_X11_73 h0 rfl dX11_mark_36 ?_
        refine rp_callVv [.ref (K.2.1 + (rf a0 5)), .ref (K.2.1 + (rf a0 8)), .ref (K.2.1 + (rf a0 9))] (SX1_lay (hn := hn) (rf (rf a0 10) p1.toNatClampNeg) (rf a0 5) (rf a0 8) (rf a0 9) (arr5 (tX11_10 h0) hb1) (tX11_5 h0) (tX11_8 h0) (tX11_9 h0)) cvX1_lay (mw (i := 934) (by decide +kernel)) (by omega) (arr5 (tX11_10 h0) hb1) (by decide) rfl rfl rfl (Nat.le_of_ble_eq_true rfl) dX11_mark_39 (fun x4 => ?_)
        refine rp_iconst (1 : Int32) dX11_mark_42 (by decide) ?_
        exact rp_zretb rfl dX11_mark_43
    · refine rp_iconst (0 : Int32) dX11_mark_13 (by decide) ?_
      exact rp_zretb rfl dX11_mark_14

theorem dX11_later_0 : decode cX11_later 0 = .ok (.aload_n 0, 1) := by decide +kernel
theorem dX11_later_1 : decode cX11_later 1 = .ok (.getfield 19, 3) := by decide +kernel
theorem dX11_later_4 : decode cX11_later 4 = .ok (.iload_n 1, 1) := by decide +kernel
theorem dX11_later_5 : decode cX11_later 5 = .ok (.invokevirtual 167, 3) := by decide +kernel
theorem dX11_later_8 : decode cX11_later 8 = .ok (.ifCond .eq 13, 3) := by decide +kernel
theorem dX11_later_11 : decode cX11_later 11 = .ok (.iload_n 2, 1) := by decide +kernel
theorem dX11_later_12 : decode cX11_later 12 = .ok (.ifCond .lt 9, 3) := by decide +kernel
theorem dX11_later_15 : decode cX11_later 15 = .ok (.iload_n 2, 1) := by decide +kernel
theorem dX11_later_16 : decode cX11_later 16 = .ok (.bipush 40, 2) := by decide +kernel
theorem dX11_later_18 : decode cX11_later 18 = .ok (.if_icmp .le 6, 3) := by decide +kernel
theorem dX11_later_21 : decode cX11_later 21 = .ok (.bipush (-2), 2) := by decide +kernel
theorem dX11_later_23 : decode cX11_later 23 = .ok (.ireturn, 1) := by decide +kernel
theorem dX11_later_24 : decode cX11_later 24 = .ok (.aload_n 0, 1) := by decide +kernel
theorem dX11_later_25 : decode cX11_later 25 = .ok (.getfield 51, 3) := by decide +kernel
theorem dX11_later_28 : decode cX11_later 28 = .ok (.aload_n 0, 1) := by decide +kernel
theorem dX11_later_29 : decode cX11_later 29 = .ok (.getfield 47, 3) := by decide +kernel
theorem dX11_later_32 : decode cX11_later 32 = .ok (.invokevirtual 260, 3) := by decide +kernel
theorem dX11_later_35 : decode cX11_later 35 = .ok (.iconst 0, 1) := by decide +kernel
theorem dX11_later_36 : decode cX11_later 36 = .ok (.istore_n 3, 1) := by decide +kernel
theorem dX11_later_37 : decode cX11_later 37 = .ok (.iload_n 3, 1) := by decide +kernel
theorem dX11_later_38 : decode cX11_later 38 = .ok (.iload_n 2, 1) := by decide +kernel
theorem dX11_later_39 : decode cX11_later 39 = .ok (.if_icmp .ge 18, 3) := by decide +kernel
theorem dX11_later_42 : decode cX11_later 42 = .ok (.aload_n 0, 1) := by decide +kernel
theorem dX11_later_43 : decode cX11_later 43 = .ok (.getfield 51, 3) := by decide +kernel
theorem dX11_later_46 : decode cX11_later 46 = .ok (.iconst 1, 1) := by decide +kernel
theorem dX11_later_47 : decode cX11_later 47 = .ok (.invokevirtual 231, 3) := by decide +kernel
theorem dX11_later_50 : decode cX11_later 50 = .ok (.pop, 1) := by decide +kernel
theorem dX11_later_51 : decode cX11_later 51 = .ok (.iinc 3 1, 3) := by decide +kernel
theorem dX11_later_54 : decode cX11_later 54 = .ok (.goto (-17), 3) := by decide +kernel
theorem dX11_later_57 : decode cX11_later 57 = .ok (.aload_n 0, 1) := by decide +kernel
theorem dX11_later_58 : decode cX11_later 58 = .ok (.getfield 51, 3) := by decide +kernel
theorem dX11_later_61 : decode cX11_later 61 = .ok (.iload_n 1, 1) := by decide +kernel
theorem dX11_later_62 : decode cX11_later 62 = .ok (.iconst 0, 1) := by decide +kernel
theorem dX11_later_63 : decode cX11_later 63 = .ok (.invokevirtual 170, 3) := by decide +kernel
theorem dX11_later_66 : decode cX11_later 66 = .ok (.ireturn, 1) := by decide +kernel
noncomputable def FX11_later (a0 : Nat) (p1 : Int32) (p2 : Int32) : PP Int32 := bd (FX7_hasPlace (rf a0 1) p1) (fun x1 => if ((b2i x1)) = 0 then pu (-2 : Int32) else if p2 < 0 then pu (-2 : Int32) else if p2 ≤ (40 : Int32) then bd (FX4_copyFrom (rf a0 6) (rf a0 5)) (fun (_ : Unit) => bd (it (fun (s3 : Int32) => (if p2 ≤ s3 then pu (Sum.inr ()) else bd (FX4_passHour (rf a0 6) (1 : Int32)) (fun x4 => lt (s3 + (1 : Int32)) (fun y5 => pu (Sum.inl y5))) : PP ((Int32) ⊕ (Unit)))) FU (0 : Int32)) (fun (v6 : Unit) => bd (FX4_weather (rf a0 6) p1 (0 : Int32)) (fun x7 => pu x7))) else pu (-2 : Int32))
set_option maxHeartbeats 4000000 in
set_option maxRecDepth 100000 in
theorem SX11_later {l : Launch} {K : KK} {n : Nat} {hn : 270 ≤ n} (a0 : Nat) (p1 : Int32) (p2 : Int32) (h0 : ob a0 10) : CT l K n 3 mX11_later [.ref (K.2.1 + a0), .int p1, .int p2] enI (FX11_later a0 p1 p2) := by
  refine CT.of2 (lv2 := [(0, .ref (K.2.1 + a0)), (1, .int p1), (2, .int p2)]) (by decide) rfl hn (Nat.le_of_ble_eq_true rfl) rfl (rp_id ?_)
  unfold FX11_later
  refine rp_aload_n 0 dX11_later_0 rfl ?_
  refine rp_getR fi_X11_19 h0 rfl dX11_later_1 ?_
  refine rp_iload_n 1 dX11_later_4 rfl ?_
  refine rp_callVz [.int p1] (SX7_hasPlace (hn := hn) (rf a0 1) p1 (tX11_1 h0)) cvX7_hasPlace (mw (i := 804) (by decide +kernel)) (by omega) (tX11_1 h0) (by decide) rfl rfl rfl (Nat.le_of_ble_eq_true rfl) dX11_later_5 (fun x1 => ?_)
  refine rp_if_eq 21 dX11_later_8 (by decide) ?_ ?_
  · refine rp_bipush (-2 : Int32) dX11_later_21 (by decide) ?_
    exact rp_pu (rp_iret rfl dX11_later_23)
  · refine rp_iload_n 2 dX11_later_11 rfl ?_
    refine rp_if_lt 21 dX11_later_12 (by decide) ?_ ?_
    · refine rp_bipush (-2 : Int32) dX11_later_21 (by decide) ?_
      exact rp_pu (rp_iret rfl dX11_later_23)
    · refine rp_iload_n 2 dX11_later_15 rfl ?_
      refine rp_bipush (40 : Int32) dX11_later_16 (by decide) ?_
      refine rp_icmp_le 24 dX11_later_18 (by decide) ?_ ?_
      · refine rp_aload_n 0 dX11_later_24 rfl ?_
        refine rp_getR fi_X11_51 h0 rfl dX11_later_25 ?_
        refine rp_aload_n 0 dX11_later_28 rfl ?_
        refine rp_getR fi_X11_47 h0 rfl dX11_later_29 ?_
        refine rp_callVv [.ref (K.2.1 + (rf a0 5))] (SX4_copyFrom (hn := hn) (rf a0 6) (rf a0 5) (tX11_6 h0) (tX11_5 h0)) cvX4_copyFrom (mw (i := 988) (by decide +kernel)) (by omega) (tX11_6 h0) (by decide) rfl rfl rfl (Nat.le_of_ble_eq_true rfl) dX11_later_32 (fun x2 => ?_)
        refine rp_iconst (0 : Int32) dX11_later_35 (by decide) ?_
        refine rp_istore_n [(3, .int (0 : Int32)), (0, .ref (K.2.1 + a0)), (1, .int p1), (2, .int p2)] dX11_later_36 (by decide) rfl ?_
        refine rp_as ?_
        refine rp_join 57 (fun v6 => [(0, .ref (K.2.1 + a0)), (1, .int p1)]) (fun _ => []) (fun v6 => ?_) (fun hX37_0 => ?_)
        · refine rp_aload_n 0 dX11_later_57 rfl ?_
          refine rp_getR fi_X11_51 h0 rfl dX11_later_58 ?_
          refine rp_iload_n 1 dX11_later_61 rfl ?_
          refine rp_iconst (0 : Int32) dX11_later_62 (by decide) ?_
          refine rp_callVi [.int p1, .int (0 : Int32)] (SX4_weather (hn := hn) (rf a0 6) p1 (0 : Int32) (tX11_6 h0)) cvX4_weather (mw (i := 808) (by decide +kernel)) (by omega) (tX11_6 h0) (by decide) rfl rfl rfl (Nat.le_of_ble_eq_true rfl) dX11_later_63 (fun x7 => ?_)
          exact rp_pu (rp_iret rfl dX11_later_66)
        refine rp_sub [1, 2, 3, 0] rfl (rp_it (fun (s3 : Int32) => [(0, .ref (K.2.1 + a0)), (1, .int p1), (2, .int p2), (3, .int s3)]) (fun N37 ih37 s3 => ?_) FU (0 : Int32))
        refine rp_iload_n 3 dX11_later_37 rfl ?_
        refine rp_iload_n 2 dX11_later_38 rfl ?_
        refine rp_icmp_ge 57 dX11_later_39 (by decide) ?_ ?_
        · exact rp_sub [0, 1] rfl (rp_puR (hX37_0 ()))
        · refine rp_aload_n 0 dX11_later_42 rfl ?_
          refine rp_getR fi_X11_51 h0 rfl dX11_later_43 ?_
          refine rp_iconst (1 : Int32) dX11_later_46 (by decide) ?_
          refine rp_callVi [.int (1 : Int32)] (SX4_passHour (hn := hn) (rf a0 6) (1 : Int32) (tX11_6 h0)) cvX4_passHour (mw (i := 901) (by decide +kernel)) (by omega) (tX11_6 h0) (by decide) rfl rfl rfl (Nat.le_of_ble_eq_true rfl) dX11_later_47 (fun x4 => ?_)
          refine rp_pop dX11_later_50 rfl ?_
          refine rp_iinc (fun y5 => [(3, .int y5), (0, .ref (K.2.1 + a0)), (1, .int p1), (2, .int p2)]) 3 dX11_later_51 rfl (by rfl) (by decide) (fun y5 => rfl) (fun y5 => ?_)
          refine rp_goto 37 dX11_later_54 (by decide) ?_
          exact rp_sub [1, 2, 3, 0] rfl (ih37 y5)
      · refine rp_bipush (-2 : Int32) dX11_later_21 (by decide) ?_
        exact rp_pu (rp_iret rfl dX11_later_23)

theorem dX11_dry_0 : decode cX11_dry 0 = .ok (.aload_n 0, 1) := by decide +kernel
theorem dX11_dry_1 : decode cX11_dry 1 = .ok (.getfield 47, 3) := by decide +kernel
theorem dX11_dry_4 : decode cX11_dry 4 = .ok (.iload_n 1, 1) := by decide +kernel
theorem dX11_dry_5 : decode cX11_dry 5 = .ok (.invokevirtual 218, 3) := by decide +kernel
theorem dX11_dry_8 : decode cX11_dry 8 = .ok (.ifCond .ne 5, 3) := by decide +kernel
theorem dX11_dry_11 : decode cX11_dry 11 = .ok (.iconst (-1), 1) := by decide +kernel
theorem dX11_dry_12 : decode cX11_dry 12 = .ok (.ireturn, 1) := by decide +kernel
theorem dX11_dry_13 : decode cX11_dry 13 = .ok (.aload_n 0, 1) := by decide +kernel
theorem dX11_dry_14 : decode cX11_dry 14 = .ok (.getfield 51, 3) := by decide +kernel
theorem dX11_dry_17 : decode cX11_dry 17 = .ok (.aload_n 0, 1) := by decide +kernel
theorem dX11_dry_18 : decode cX11_dry 18 = .ok (.getfield 47, 3) := by decide +kernel
theorem dX11_dry_21 : decode cX11_dry 21 = .ok (.invokevirtual 260, 3) := by decide +kernel
theorem dX11_dry_24 : decode cX11_dry 24 = .ok (.iconst 0, 1) := by decide +kernel
theorem dX11_dry_25 : decode cX11_dry 25 = .ok (.istore_n 2, 1) := by decide +kernel
theorem dX11_dry_26 : decode cX11_dry 26 = .ok (.iload_n 2, 1) := by decide +kernel
theorem dX11_dry_27 : decode cX11_dry 27 = .ok (.bipush 40, 2) := by decide +kernel
theorem dX11_dry_29 : decode cX11_dry 29 = .ok (.if_icmp .gt 32, 3) := by decide +kernel
theorem dX11_dry_32 : decode cX11_dry 32 = .ok (.aload_n 0, 1) := by decide +kernel
theorem dX11_dry_33 : decode cX11_dry 33 = .ok (.getfield 51, 3) := by decide +kernel
theorem dX11_dry_36 : decode cX11_dry 36 = .ok (.getfield 155, 3) := by decide +kernel
theorem dX11_dry_39 : decode cX11_dry 39 = .ok (.iload_n 1, 1) := by decide +kernel
theorem dX11_dry_40 : decode cX11_dry 40 = .ok (.iaload, 1) := by decide +kernel
theorem dX11_dry_41 : decode cX11_dry 41 = .ok (.ifCond .ne 5, 3) := by decide +kernel
theorem dX11_dry_44 : decode cX11_dry 44 = .ok (.iload_n 2, 1) := by decide +kernel
theorem dX11_dry_45 : decode cX11_dry 45 = .ok (.ireturn, 1) := by decide +kernel
theorem dX11_dry_46 : decode cX11_dry 46 = .ok (.aload_n 0, 1) := by decide +kernel
theorem dX11_dry_47 : decode cX11_dry 47 = .ok (.getfield 51, 3) := by decide +kernel
theorem dX11_dry_50 : decode cX11_dry 50 = .ok (.iconst 1, 1) := by decide +kernel
theorem dX11_dry_51 : decode cX11_dry 51 = .ok (.invokevirtual 231, 3) := by decide +kernel
theorem dX11_dry_54 : decode cX11_dry 54 = .ok (.pop, 1) := by decide +kernel
theorem dX11_dry_55 : decode cX11_dry 55 = .ok (.iinc 2 1, 3) := by decide +kernel
theorem dX11_dry_58 : decode cX11_dry 58 = .ok (.goto (-32), 3) := by decide +kernel
theorem dX11_dry_61 : decode cX11_dry 61 = .ok (.iconst (-1), 1) := by decide +kernel
theorem dX11_dry_62 : decode cX11_dry 62 = .ok (.ireturn, 1) := by decide +kernel
noncomputable def FX11_dry (a0 : Nat) (p1 : Int32) : PP Int32 := bd (FX4_hangs (rf a0 5) p1) (fun x1 => if ((b2i x1)) = 0 then pu (-1 : Int32) else bd (FX4_copyFrom (rf a0 6) (rf a0 5)) (fun (_ : Unit) => bd (it (fun (s3 : Int32) => (if (40 : Int32) < s3 then pu (Sum.inr (Sum.inl ())) else bd (aI (rf (rf a0 6) 1) 6 p1) (fun x4 => if x4 = 0 then pu (Sum.inr (Sum.inr (s3))) else bd (FX4_passHour (rf a0 6) (1 : Int32)) (fun x5 => lt (s3 + (1 : Int32)) (fun y6 => pu (Sum.inl y6)))) : PP ((Int32) ⊕ ((Unit) ⊕ (Int32))))) FU (0 : Int32)) (Sum.elim (fun (v7 : Unit) => pu (-1 : Int32)) (fun (v8 : Int32) => pu v8))))
set_option maxHeartbeats 4000000 in
set_option maxRecDepth 100000 in
theorem SX11_dry {l : Launch} {K : KK} {n : Nat} {hn : 270 ≤ n} (a0 : Nat) (p1 : Int32) (h0 : ob a0 10) : CT l K n 3 mX11_dry [.ref (K.2.1 + a0), .int p1] enI (FX11_dry a0 p1) := by
  refine CT.of2 (lv2 := [(0, .ref (K.2.1 + a0)), (1, .int p1)]) (by decide) rfl hn (Nat.le_of_ble_eq_true rfl) rfl (rp_id ?_)
  unfold FX11_dry
  refine rp_aload_n 0 dX11_dry_0 rfl ?_
  refine rp_getR fi_X11_47 h0 rfl dX11_dry_1 ?_
  refine rp_iload_n 1 dX11_dry_4 rfl ?_
  refine rp_callVz [.int p1] (SX4_hangs (hn := hn) (rf a0 5) p1 (tX11_5 h0)) cvX4_hangs (mw (i := 880) (by decide +kernel)) (by omega) (tX11_5 h0) (by decide) rfl rfl rfl (Nat.le_of_ble_eq_true rfl) dX11_dry_5 (fun x1 => ?_)
  refine rp_if_ne 13 dX11_dry_8 (by decide) ?_ ?_
  · refine rp_aload_n 0 dX11_dry_13 rfl ?_
    refine rp_getR fi_X11_51 h0 rfl dX11_dry_14 ?_
    refine rp_aload_n 0 dX11_dry_17 rfl ?_
    refine rp_getR fi_X11_47 h0 rfl dX11_dry_18 ?_
    refine rp_callVv [.ref (K.2.1 + (rf a0 5))] (SX4_copyFrom (hn := hn) (rf a0 6) (rf a0 5) (tX11_6 h0) (tX11_5 h0)) cvX4_copyFrom (mw (i := 988) (by decide +kernel)) (by omega) (tX11_6 h0) (by decide) rfl rfl rfl (Nat.le_of_ble_eq_true rfl) dX11_dry_21 (fun x2 => ?_)
    refine rp_iconst (0 : Int32) dX11_dry_24 (by decide) ?_
    refine rp_istore_n [(2, .int (0 : Int32)), (0, .ref (K.2.1 + a0)), (1, .int p1)] dX11_dry_25 (by decide) rfl ?_
    refine rp_as ?_
    refine rp_join2 61 (fun v7 => []) (fun _ => []) 44 (fun v8 => [(2, .int v8)]) (fun _ => []) (fun v7 => ?_) (fun v8 => ?_) (fun hX26_0 hX26_1 => ?_)
    · refine rp_iconst (-1 : Int32) dX11_dry_61 (by decide) ?_
      exact rp_pu (rp_iret rfl dX11_dry_62)
    · refine rp_iload_n 0 dX11_dry_44 rfl ?_
      exact rp_pu (rp_iret rfl dX11_dry_45)
    refine rp_sub [1, 2, 0] rfl (rp_it (fun (s3 : Int32) => [(0, .ref (K.2.1 + a0)), (1, .int p1), (2, .int s3)]) (fun N26 ih26 s3 => ?_) FU (0 : Int32))
    refine rp_iload_n 2 dX11_dry_26 rfl ?_
    refine rp_bipush (40 : Int32) dX11_dry_27 (by decide) ?_
    refine rp_icmp_gt 61 dX11_dry_29 (by decide) ?_ ?_
    · exact rp_sub [] rfl (rp_puRL (hX26_0 ()))
    · refine rp_aload_n 0 dX11_dry_32 rfl ?_
      refine rp_getR fi_X11_51 h0 rfl dX11_dry_33 ?_
      refine rp_getR fi_X11_155 (tX11_6 h0) rfl dX11_dry_36 ?_
      refine rp_iload_n 1 dX11_dry_39 rfl ?_
      refine rp_iald (tX4_1 (tX11_6 h0)) dX11_dry_40 (fun x4 => ?_)
      refine rp_if_ne 46 dX11_dry_41 (by decide) ?_ ?_
      · refine rp_aload_n 0 dX11_dry_46 rfl ?_
        refine rp_getR fi_X11_51 h0 rfl dX11_dry_47 ?_
        refine rp_iconst (1 : Int32) dX11_dry_50 (by decide) ?_
        refine rp_callVi [.int (1 : Int32)] (SX4_passHour (hn := hn) (rf a0 6) (1 : Int32) (tX11_6 h0)) cvX4_passHour (mw (i := 901) (by decide +kernel)) (by omega) (tX11_6 h0) (by decide) rfl rfl rfl (Nat.le_of_ble_eq_true rfl) dX11_dry_51 (fun x5 => ?_)
        refine rp_pop dX11_dry_54 rfl ?_
        refine rp_iinc (fun y6 => [(2, .int y6), (0, .ref (K.2.1 + a0)), (1, .int p1)]) 2 dX11_dry_55 rfl (by rfl) (by decide) (fun y6 => rfl) (fun y6 => ?_)
        refine rp_goto 26 dX11_dry_58 (by decide) ?_
        exact rp_sub [1, 2, 0] rfl (ih26 y6)
      · exact rp_sub [2] rfl (rp_puRR (hX26_1 s3))
  · refine rp_iconst (-1 : Int32) dX11_dry_11 (by decide) ?_
    exact rp_pu (rp_iret rfl dX11_dry_12)

theorem dX11_clears_0 : decode cX11_clears 0 = .ok (.aload_n 0, 1) := by decide +kernel
theorem dX11_clears_1 : decode cX11_clears 1 = .ok (.getfield 19, 3) := by decide +kernel
theorem dX11_clears_4 : decode cX11_clears 4 = .ok (.iload_n 1, 1) := by decide +kernel
theorem dX11_clears_5 : decode cX11_clears 5 = .ok (.invokevirtual 167, 3) := by decide +kernel
theorem dX11_clears_8 : decode cX11_clears 8 = .ok (.ifCond .ne 5, 3) := by decide +kernel
theorem dX11_clears_11 : decode cX11_clears 11 = .ok (.iconst (-1), 1) := by decide +kernel
theorem dX11_clears_12 : decode cX11_clears 12 = .ok (.ireturn, 1) := by decide +kernel
theorem dX11_clears_13 : decode cX11_clears 13 = .ok (.aload_n 0, 1) := by decide +kernel
theorem dX11_clears_14 : decode cX11_clears 14 = .ok (.getfield 51, 3) := by decide +kernel
theorem dX11_clears_17 : decode cX11_clears 17 = .ok (.aload_n 0, 1) := by decide +kernel
theorem dX11_clears_18 : decode cX11_clears 18 = .ok (.getfield 47, 3) := by decide +kernel
theorem dX11_clears_21 : decode cX11_clears 21 = .ok (.invokevirtual 260, 3) := by decide +kernel
theorem dX11_clears_24 : decode cX11_clears 24 = .ok (.iconst 0, 1) := by decide +kernel
theorem dX11_clears_25 : decode cX11_clears 25 = .ok (.istore_n 2, 1) := by decide +kernel
theorem dX11_clears_26 : decode cX11_clears 26 = .ok (.iload_n 2, 1) := by decide +kernel
theorem dX11_clears_27 : decode cX11_clears 27 = .ok (.bipush 40, 2) := by decide +kernel
theorem dX11_clears_29 : decode cX11_clears 29 = .ok (.if_icmp .gt 33, 3) := by decide +kernel
theorem dX11_clears_32 : decode cX11_clears 32 = .ok (.aload_n 0, 1) := by decide +kernel
theorem dX11_clears_33 : decode cX11_clears 33 = .ok (.getfield 51, 3) := by decide +kernel
theorem dX11_clears_36 : decode cX11_clears 36 = .ok (.iload_n 1, 1) := by decide +kernel
theorem dX11_clears_37 : decode cX11_clears 37 = .ok (.iconst 0, 1) := by decide +kernel
theorem dX11_clears_38 : decode cX11_clears 38 = .ok (.invokevirtual 170, 3) := by decide +kernel
theorem dX11_clears_41 : decode cX11_clears 41 = .ok (.iconst (-1), 1) := by decide +kernel
theorem dX11_clears_42 : decode cX11_clears 42 = .ok (.if_icmp .ne 5, 3) := by decide +kernel
theorem dX11_clears_45 : decode cX11_clears 45 = .ok (.iload_n 2, 1) := by decide +kernel
theorem dX11_clears_46 : decode cX11_clears 46 = .ok (.ireturn, 1) := by decide +kernel
theorem dX11_clears_47 : decode cX11_clears 47 = .ok (.aload_n 0, 1) := by decide +kernel
theorem dX11_clears_48 : decode cX11_clears 48 = .ok (.getfield 51, 3) := by decide +kernel
theorem dX11_clears_51 : decode cX11_clears 51 = .ok (.iconst 1, 1) := by decide +kernel
theorem dX11_clears_52 : decode cX11_clears 52 = .ok (.invokevirtual 231, 3) := by decide +kernel
theorem dX11_clears_55 : decode cX11_clears 55 = .ok (.pop, 1) := by decide +kernel
theorem dX11_clears_56 : decode cX11_clears 56 = .ok (.iinc 2 1, 3) := by decide +kernel
theorem dX11_clears_59 : decode cX11_clears 59 = .ok (.goto (-33), 3) := by decide +kernel
theorem dX11_clears_62 : decode cX11_clears 62 = .ok (.iconst (-1), 1) := by decide +kernel
theorem dX11_clears_63 : decode cX11_clears 63 = .ok (.ireturn, 1) := by decide +kernel
noncomputable def FX11_clears (a0 : Nat) (p1 : Int32) : PP Int32 := bd (FX7_hasPlace (rf a0 1) p1) (fun x1 => if ((b2i x1)) = 0 then pu (-1 : Int32) else bd (FX4_copyFrom (rf a0 6) (rf a0 5)) (fun (_ : Unit) => bd (it (fun (s3 : Int32) => (if (40 : Int32) < s3 then pu (Sum.inr (Sum.inl ())) else bd (FX4_weather (rf a0 6) p1 (0 : Int32)) (fun x4 => if x4 = (-1 : Int32) then pu (Sum.inr (Sum.inr (s3))) else bd (FX4_passHour (rf a0 6) (1 : Int32)) (fun x5 => lt (s3 + (1 : Int32)) (fun y6 => pu (Sum.inl y6)))) : PP ((Int32) ⊕ ((Unit) ⊕ (Int32))))) FU (0 : Int32)) (Sum.elim (fun (v7 : Unit) => pu (-1 : Int32)) (fun (v8 : Int32) => pu v8))))
set_option maxHeartbeats 4000000 in
set_option maxRecDepth 100000 in
theorem SX11_clears {l : Launch} {K : KK} {n : Nat} {hn : 270 ≤ n} (a0 : Nat) (p1 : Int32) (h0 : ob a0 10) : CT l K n 3 mX11_clears [.ref (K.2.1 + a0), .int p1] enI (FX11_clears a0 p1) := by
  refine CT.of2 (lv2 := [(0, .ref (K.2.1 + a0)), (1, .int p1)]) (by decide) rfl hn (Nat.le_of_ble_eq_true rfl) rfl (rp_id ?_)
  unfold FX11_clears
  refine rp_aload_n 0 dX11_clears_0 rfl ?_
  refine rp_getR fi_X11_19 h0 rfl dX11_clears_1 ?_
  refine rp_iload_n 1 dX11_clears_4 rfl ?_
  refine rp_callVz [.int p1] (SX7_hasPlace (hn := hn) (rf a0 1) p1 (tX11_1 h0)) cvX7_hasPlace (mw (i := 804) (by decide +kernel)) (by omega) (tX11_1 h0) (by decide) rfl rfl rfl (Nat.le_of_ble_eq_true rfl) dX11_clears_5 (fun x1 => ?_)
  refine rp_if_ne 13 dX11_clears_8 (by decide) ?_ ?_
  · refine rp_aload_n 0 dX11_clears_13 rfl ?_
    refine rp_getR fi_X11_51 h0 rfl dX11_clears_14 ?_
    refine rp_aload_n 0 dX11_clears_17 rfl ?_
    refine rp_getR fi_X11_47 h0 rfl dX11_clears_18 ?_
    refine rp_callVv [.ref (K.2.1 + (rf a0 5))] (SX4_copyFrom (hn := hn) (rf a0 6) (rf a0 5) (tX11_6 h0) (tX11_5 h0)) cvX4_copyFrom (mw (i := 988) (by decide +kernel)) (by omega) (tX11_6 h0) (by decide) rfl rfl rfl (Nat.le_of_ble_eq_true rfl) dX11_clears_21 (fun x2 => ?_)
    refine rp_iconst (0 : Int32) dX11_clears_24 (by decide) ?_
    refine rp_istore_n [(2, .int (0 : Int32)), (0, .ref (K.2.1 + a0)), (1, .int p1)] dX11_clears_25 (by decide) rfl ?_
    refine rp_as ?_
    refine rp_join2 62 (fun v7 => []) (fun _ => []) 45 (fun v8 => [(2, .int v8)]) (fun _ => []) (fun v7 => ?_) (fun v8 => ?_) (fun hX26_0 hX26_1 => ?_)
    · refine rp_iconst (-1 : Int32) dX11_clears_62 (by decide) ?_
      exact rp_pu (rp_iret rfl dX11_clears_63)
    · refine rp_iload_n 0 dX11_clears_45 rfl ?_
      exact rp_pu (rp_iret rfl dX11_clears_46)
    refine rp_sub [1, 2, 0] rfl (rp_it (fun (s3 : Int32) => [(0, .ref (K.2.1 + a0)), (1, .int p1), (2, .int s3)]) (fun N26 ih26 s3 => ?_) FU (0 : Int32))
    refine rp_iload_n 2 dX11_clears_26 rfl ?_
    refine rp_bipush (40 : Int32) dX11_clears_27 (by decide) ?_
    refine rp_icmp_gt 62 dX11_clears_29 (by decide) ?_ ?_
    · exact rp_sub [] rfl (rp_puRL (hX26_0 ()))
    · refine rp_aload_n 0 dX11_clears_32 rfl ?_
      refine rp_getR fi_X11_51 h0 rfl dX11_clears_33 ?_
      refine rp_iload_n 1 dX11_clears_36 rfl ?_
      refine rp_iconst (0 : Int32) dX11_clears_37 (by decide) ?_
      refine rp_callVi [.int p1, .int (0 : Int32)] (SX4_weather (hn := hn) (rf a0 6) p1 (0 : Int32) (tX11_6 h0)) cvX4_weather (mw (i := 808) (by decide +kernel)) (by omega) (tX11_6 h0) (by decide) rfl rfl rfl (Nat.le_of_ble_eq_true rfl) dX11_clears_38 (fun x4 => ?_)
      refine rp_iconst (-1 : Int32) dX11_clears_41 (by decide) ?_
      refine rp_icmp_ne 47 dX11_clears_42 (by decide) ?_ ?_
      · refine rp_aload_n 0 dX11_clears_47 rfl ?_
        refine rp_getR fi_X11_51 h0 rfl dX11_clears_48 ?_
        refine rp_iconst (1 : Int32) dX11_clears_51 (by decide) ?_
        refine rp_callVi [.int (1 : Int32)] (SX4_passHour (hn := hn) (rf a0 6) (1 : Int32) (tX11_6 h0)) cvX4_passHour (mw (i := 901) (by decide +kernel)) (by omega) (tX11_6 h0) (by decide) rfl rfl rfl (Nat.le_of_ble_eq_true rfl) dX11_clears_52 (fun x5 => ?_)
        refine rp_pop dX11_clears_55 rfl ?_
        refine rp_iinc (fun y6 => [(2, .int y6), (0, .ref (K.2.1 + a0)), (1, .int p1)]) 2 dX11_clears_56 rfl (by rfl) (by decide) (fun y6 => rfl) (fun y6 => ?_)
        refine rp_goto 26 dX11_clears_59 (by decide) ?_
        exact rp_sub [1, 2, 0] rfl (ih26 y6)
      · exact rp_sub [2] rfl (rp_puRR (hX26_1 s3))
  · refine rp_iconst (-1 : Int32) dX11_clears_11 (by decide) ?_
    exact rp_pu (rp_iret rfl dX11_clears_12)

theorem dX11_waysToDry_0 : decode cX11_waysToDry 0 = .ok (.iload_n 2, 1) := by decide +kernel
theorem dX11_waysToDry_1 : decode cX11_waysToDry 1 = .ok (.iload_n 3, 1) := by decide +kernel
theorem dX11_waysToDry_2 : decode cX11_waysToDry 2 = .ok (.if_icmp .ge 14, 3) := by decide +kernel
theorem dX11_waysToDry_5 : decode cX11_waysToDry 5 = .ok (.iload_n 2, 1) := by decide +kernel
theorem dX11_waysToDry_6 : decode cX11_waysToDry 6 = .ok (.iconst 1, 1) := by decide +kernel
theorem dX11_waysToDry_7 : decode cX11_waysToDry 7 = .ok (.iadd, 1) := by decide +kernel
theorem dX11_waysToDry_8 : decode cX11_waysToDry 8 = .ok (.aload_n 0, 1) := by decide +kernel
theorem dX11_waysToDry_9 : decode cX11_waysToDry 9 = .ok (.getfield 84, 3) := by decide +kernel
theorem dX11_waysToDry_12 : decode cX11_waysToDry 12 = .ok (.arraylength, 1) := by decide +kernel
theorem dX11_waysToDry_13 : decode cX11_waysToDry 13 = .ok (.if_icmp .lt 23, 3) := by decide +kernel
theorem dX11_waysToDry_16 : decode cX11_waysToDry 16 = .ok (.aload_n 0, 1) := by decide +kernel
theorem dX11_waysToDry_17 : decode cX11_waysToDry 17 = .ok (.getfield 84, 3) := by decide +kernel
theorem dX11_waysToDry_20 : decode cX11_waysToDry 20 = .ok (.iload_n 2, 1) := by decide +kernel
theorem dX11_waysToDry_21 : decode cX11_waysToDry 21 = .ok (.aaload, 1) := by decide +kernel
theorem dX11_waysToDry_22 : decode cX11_waysToDry 22 = .ok (.getfield 155, 3) := by decide +kernel
theorem dX11_waysToDry_25 : decode cX11_waysToDry 25 = .ok (.iload_n 1, 1) := by decide +kernel
theorem dX11_waysToDry_26 : decode cX11_waysToDry 26 = .ok (.iaload, 1) := by decide +kernel
theorem dX11_waysToDry_27 : decode cX11_waysToDry 27 = .ok (.ifCond .ne 7, 3) := by decide +kernel
theorem dX11_waysToDry_30 : decode cX11_waysToDry 30 = .ok (.iconst 1, 1) := by decide +kernel
theorem dX11_waysToDry_31 : decode cX11_waysToDry 31 = .ok (.goto 4, 3) := by decide +kernel
theorem dX11_waysToDry_34 : decode cX11_waysToDry 34 = .ok (.iconst 0, 1) := by decide +kernel
theorem dX11_waysToDry_35 : decode cX11_waysToDry 35 = .ok (.ireturn, 1) := by decide +kernel
theorem dX11_waysToDry_36 : decode cX11_waysToDry 36 = .ok (.iconst 0, 1) := by decide +kernel
theorem dX11_waysToDry_37 : decode cX11_waysToDry 37 = .ok (.istore 5, 2) := by decide +kernel
theorem dX11_waysToDry_39 : decode cX11_waysToDry 39 = .ok (.iload 4, 2) := by decide +kernel
theorem dX11_waysToDry_41 : decode cX11_waysToDry 41 = .ok (.ifCond .le 52, 3) := by decide +kernel
theorem dX11_waysToDry_44 : decode cX11_waysToDry 44 = .ok (.aload_n 0, 1) := by decide +kernel
theorem dX11_waysToDry_45 : decode cX11_waysToDry 45 = .ok (.getfield 84, 3) := by decide +kernel
theorem dX11_waysToDry_48 : decode cX11_waysToDry 48 = .ok (.iload_n 2, 1) := by decide +kernel
theorem dX11_waysToDry_49 : decode cX11_waysToDry 49 = .ok (.iconst 1, 1) := by decide +kernel
theorem dX11_waysToDry_50 : decode cX11_waysToDry 50 = .ok (.iadd, 1) := by decide +kernel
theorem dX11_waysToDry_51 : decode cX11_waysToDry 51 = .ok (.aaload, 1) := by decide +kernel
theorem dX11_waysToDry_52 : decode cX11_waysToDry 52 = .ok (.aload_n 0, 1) := by decide +kernel
theorem dX11_waysToDry_53 : decode cX11_waysToDry 53 = .ok (.getfield 84, 3) := by decide +kernel
theorem dX11_waysToDry_56 : decode cX11_waysToDry 56 = .ok (.iload_n 2, 1) := by decide +kernel
theorem dX11_waysToDry_57 : decode cX11_waysToDry 57 = .ok (.aaload, 1) := by decide +kernel
theorem dX11_waysToDry_58 : decode cX11_waysToDry 58 = .ok (.invokevirtual 260, 3) := by decide +kernel
theorem dX11_waysToDry_61 : decode cX11_waysToDry 61 = .ok (.aload_n 0, 1) := by decide +kernel
theorem dX11_waysToDry_62 : decode cX11_waysToDry 62 = .ok (.getfield 84, 3) := by decide +kernel
theorem dX11_waysToDry_65 : decode cX11_waysToDry 65 = .ok (.iload_n 2, 1) := by decide +kernel
theorem dX11_waysToDry_66 : decode cX11_waysToDry 66 = .ok (.iconst 1, 1) := by decide +kernel
theorem dX11_waysToDry_67 : decode cX11_waysToDry 67 = .ok (.iadd, 1) := by decide +kernel
theorem dX11_waysToDry_68 : decode cX11_waysToDry 68 = .ok (.aaload, 1) := by decide +kernel
theorem dX11_waysToDry_69 : decode cX11_waysToDry 69 = .ok (.iconst 1, 1) := by decide +kernel
theorem dX11_waysToDry_70 : decode cX11_waysToDry 70 = .ok (.invokevirtual 231, 3) := by decide +kernel
theorem dX11_waysToDry_73 : decode cX11_waysToDry 73 = .ok (.pop, 1) := by decide +kernel
theorem dX11_waysToDry_74 : decode cX11_waysToDry 74 = .ok (.iload 5, 2) := by decide +kernel
theorem dX11_waysToDry_76 : decode cX11_waysToDry 76 = .ok (.iload 4, 2) := by decide +kernel
theorem dX11_waysToDry_78 : decode cX11_waysToDry 78 = .ok (.aload_n 0, 1) := by decide +kernel
theorem dX11_waysToDry_79 : decode cX11_waysToDry 79 = .ok (.iload_n 1, 1) := by decide +kernel
theorem dX11_waysToDry_80 : decode cX11_waysToDry 80 = .ok (.iload_n 2, 1) := by decide +kernel
theorem dX11_waysToDry_81 : decode cX11_waysToDry 81 = .ok (.iconst 1, 1) := by decide +kernel
theorem dX11_waysToDry_82 : decode cX11_waysToDry 82 = .ok (.iadd, 1) := by decide +kernel
theorem dX11_waysToDry_83 : decode cX11_waysToDry 83 = .ok (.iload_n 3, 1) := by decide +kernel
theorem dX11_waysToDry_84 : decode cX11_waysToDry 84 = .ok (.iload 4, 2) := by decide +kernel
theorem dX11_waysToDry_86 : decode cX11_waysToDry 86 = .ok (.invokevirtual 265, 3) := by decide +kernel
theorem dX11_waysToDry_89 : decode cX11_waysToDry 89 = .ok (.imul, 1) := by decide +kernel
theorem dX11_waysToDry_90 : decode cX11_waysToDry 90 = .ok (.iadd, 1) := by decide +kernel
theorem dX11_waysToDry_91 : decode cX11_waysToDry 91 = .ok (.istore 5, 2) := by decide +kernel
theorem dX11_waysToDry_93 : decode cX11_waysToDry 93 = .ok (.iload 4, 2) := by decide +kernel
theorem dX11_waysToDry_95 : decode cX11_waysToDry 95 = .ok (.bipush 10, 2) := by decide +kernel
theorem dX11_waysToDry_97 : decode cX11_waysToDry 97 = .ok (.if_icmp .ge 55, 3) := by decide +kernel
theorem dX11_waysToDry_100 : decode cX11_waysToDry 100 = .ok (.aload_n 0, 1) := by decide +kernel
theorem dX11_waysToDry_101 : decode cX11_waysToDry 101 = .ok (.getfield 84, 3) := by decide +kernel
theorem dX11_waysToDry_104 : decode cX11_waysToDry 104 = .ok (.iload_n 2, 1) := by decide +kernel
theorem dX11_waysToDry_105 : decode cX11_waysToDry 105 = .ok (.iconst 1, 1) := by decide +kernel
theorem dX11_waysToDry_106 : decode cX11_waysToDry 106 = .ok (.iadd, 1) := by decide +kernel
theorem dX11_waysToDry_107 : decode cX11_waysToDry 107 = .ok (.aaload, 1) := by decide +kernel
theorem dX11_waysToDry_108 : decode cX11_waysToDry 108 = .ok (.aload_n 0, 1) := by decide +kernel
theorem dX11_waysToDry_109 : decode cX11_waysToDry 109 = .ok (.getfield 84, 3) := by decide +kernel
theorem dX11_waysToDry_112 : decode cX11_waysToDry 112 = .ok (.iload_n 2, 1) := by decide +kernel
theorem dX11_waysToDry_113 : decode cX11_waysToDry 113 = .ok (.aaload, 1) := by decide +kernel
theorem dX11_waysToDry_114 : decode cX11_waysToDry 114 = .ok (.invokevirtual 260, 3) := by decide +kernel
theorem dX11_waysToDry_117 : decode cX11_waysToDry 117 = .ok (.aload_n 0, 1) := by decide +kernel
theorem dX11_waysToDry_118 : decode cX11_waysToDry 118 = .ok (.getfield 84, 3) := by decide +kernel
theorem dX11_waysToDry_121 : decode cX11_waysToDry 121 = .ok (.iload_n 2, 1) := by decide +kernel
theorem dX11_waysToDry_122 : decode cX11_waysToDry 122 = .ok (.iconst 1, 1) := by decide +kernel
theorem dX11_waysToDry_123 : decode cX11_waysToDry 123 = .ok (.iadd, 1) := by decide +kernel
theorem dX11_waysToDry_124 : decode cX11_waysToDry 124 = .ok (.aaload, 1) := by decide +kernel
theorem dX11_waysToDry_125 : decode cX11_waysToDry 125 = .ok (.iconst 0, 1) := by decide +kernel
theorem dX11_waysToDry_126 : decode cX11_waysToDry 126 = .ok (.invokevirtual 231, 3) := by decide +kernel
theorem dX11_waysToDry_129 : decode cX11_waysToDry 129 = .ok (.pop, 1) := by decide +kernel
theorem dX11_waysToDry_130 : decode cX11_waysToDry 130 = .ok (.iload 5, 2) := by decide +kernel
theorem dX11_waysToDry_132 : decode cX11_waysToDry 132 = .ok (.bipush 10, 2) := by decide +kernel
theorem dX11_waysToDry_134 : decode cX11_waysToDry 134 = .ok (.iload 4, 2) := by decide +kernel
theorem dX11_waysToDry_136 : decode cX11_waysToDry 136 = .ok (.isub, 1) := by decide +kernel
theorem dX11_waysToDry_137 : decode cX11_waysToDry 137 = .ok (.aload_n 0, 1) := by decide +kernel
theorem dX11_waysToDry_138 : decode cX11_waysToDry 138 = .ok (.iload_n 1, 1) := by decide +kernel
theorem dX11_waysToDry_139 : decode cX11_waysToDry 139 = .ok (.iload_n 2, 1) := by decide +kernel
theorem dX11_waysToDry_140 : decode cX11_waysToDry 140 = .ok (.iconst 1, 1) := by decide +kernel
theorem dX11_waysToDry_141 : decode cX11_waysToDry 141 = .ok (.iadd, 1) := by decide +kernel
theorem dX11_waysToDry_142 : decode cX11_waysToDry 142 = .ok (.iload_n 3, 1) := by decide +kernel
theorem dX11_waysToDry_143 : decode cX11_waysToDry 143 = .ok (.iload 4, 2) := by decide +kernel
theorem dX11_waysToDry_145 : decode cX11_waysToDry 145 = .ok (.invokevirtual 265, 3) := by decide +kernel
theorem dX11_waysToDry_148 : decode cX11_waysToDry 148 = .ok (.imul, 1) := by decide +kernel
theorem dX11_waysToDry_149 : decode cX11_waysToDry 149 = .ok (.iadd, 1) := by decide +kernel
theorem dX11_waysToDry_150 : decode cX11_waysToDry 150 = .ok (.istore 5, 2) := by decide +kernel
theorem dX11_waysToDry_152 : decode cX11_waysToDry 152 = .ok (.iload 5, 2) := by decide +kernel
theorem dX11_waysToDry_154 : decode cX11_waysToDry 154 = .ok (.ireturn, 1) := by decide +kernel
noncomputable def GX11_waysToDry (self : Nat → Int32 → Int32 → Int32 → Int32 → PP Int32) (a0 : Nat) (p1 : Int32) (p2 : Int32) (p3 : Int32) (p4 : Int32) : PP Int32 := jn (fun (v18 : Unit) => bd (gd (ib p2 7 = true)) (fun (_ : Unit) => bd (aI (rf (rf (rf a0 11) p2.toNatClampNeg) 1) 6 p1) (fun x20 => bd (if x20 = 0 then pu (1 : Int32) else pu (0 : Int32) : PP (Int32)) (fun (v21 : Int32) => pu v21)))) (fun j1 => if p3 ≤ p2 then j1 () else if (p2 + (1 : Int32)) < (7 : Int32) then bd (if p4 ≤ 0 then pu (0 : Int32) else bd (gd (ib (p2 + (1 : Int32)) 7 = true)) (fun (_ : Unit) => bd (gd (ib p2 7 = true)) (fun (_ : Unit) => bd (FX4_copyFrom (rf (rf a0 11) (p2 + (1 : Int32)).toNatClampNeg) (rf (rf a0 11) p2.toNatClampNeg)) (fun (_ : Unit) => bd (gd (ib (p2 + (1 : Int32)) 7 = true)) (fun (_ : Unit) => bd (FX4_passHour (rf (rf a0 11) (p2 + (1 : Int32)).toNatClampNeg) (1 : Int32)) (fun x6 => bd (self a0 p1 (p2 + (1 : Int32)) p3 p4) (fun x7 => lt ((0 : Int32) + (p4 * x7)) (fun y8 => pu y8))))))) : PP (Int32)) (fun (v9 : Int32) => bd (if (10 : Int32) ≤ p4 then pu v9 else bd (gd (ib (p2 + (1 : Int32)) 7 = true)) (fun (_ : Unit) => bd (gd (ib p2 7 = true)) (fun (_ : Unit) => bd (FX4_copyFrom (rf (rf a0 11) (p2 + (1 : Int32)).toNatClampNeg) (rf (rf a0 11) p2.toNatClampNeg)) (fun (_ : Unit) => bd (gd (ib (p2 + (1 : Int32)) 7 = true)) (fun (_ : Unit) => bd (FX4_passHour (rf (rf a0 11) (p2 + (1 : Int32)).toNatClampNeg) (0 : Int32)) (fun x14 => bd (self a0 p1 (p2 + (1 : Int32)) p3 p4) (fun x15 => lt (v9 + (((10 : Int32) - p4) * x15)) (fun y16 => pu y16))))))) : PP (Int32)) (fun (v17 : Int32) => pu v17)) else j1 ())
set_option maxHeartbeats 4000000 in
set_option maxRecDepth 100000 in
theorem SGX11_waysToDry {l : Launch} {K : KK} {n : Nat} {dp : Nat} {self : Nat → Int32 → Int32 → Int32 → Int32 → PP Int32} {hn : 270 ≤ n} (hs : ∀ (a0 : Nat) (p1 : Int32) (p2 : Int32) (p3 : Int32) (p4 : Int32), ob a0 10 → CT l K n dp mX11_waysToDry [.ref (K.2.1 + a0), .int p1, .int p2, .int p3, .int p4] enI (self a0 p1 p2 p3 p4)) (a0 : Nat) (p1 : Int32) (p2 : Int32) (p3 : Int32) (p4 : Int32) (h0 : ob a0 10) : CT l K n (dp + 3) mX11_waysToDry [.ref (K.2.1 + a0), .int p1, .int p2, .int p3, .int p4] enI (GX11_waysToDry self a0 p1 p2 p3 p4) := by
  refine CT.of2 (lv2 := [(0, .ref (K.2.1 + a0)), (1, .int p1), (2, .int p2), (3, .int p3), (4, .int p4)]) (by decide) rfl hn (Nat.le_of_ble_eq_true rfl) rfl (rp_id ?_)
  unfold GX11_waysToDry
  refine rp_iload_n 2 dX11_waysToDry_0 rfl ?_
  refine rp_iload_n 3 dX11_waysToDry_1 rfl ?_
  refine rp_jn2 16 (fun (v18 : Unit) => [(0, .ref (K.2.1 + a0)), (1, .int p1), (2, .int p2)]) (fun v18 => []) (fun v18 => ?_) (fun hK16 => ?_)
  · refine rp_aload_n 0 dX11_waysToDry_16 rfl ?_
    refine rp_getR fi_X11_84 h0 rfl dX11_waysToDry_17 ?_
    refine rp_iload_n 2 dX11_waysToDry_20 rfl ?_
    refine rp_aald (tX11_11 h0) (Or.inl rfl) dX11_waysToDry_21 (fun hb19 => ?_)
    refine rp_getR fi_X11_155 (arr4 (tX11_11 h0) hb19) rfl dX11_waysToDry_22 ?_
    refine rp_iload_n 1 dX11_waysToDry_25 rfl ?_
    refine rp_iald (tX4_1 (arr4 (tX11_11 h0) hb19)) dX11_waysToDry_26 (fun x20 => ?_)
    refine rp_as ?_
    refine rp_join 35 (fun (v21 : Int32) => []) (fun v21 => [.int v21]) (fun v21 => ?_) (fun hJ35 => ?_)
    · exact rp_pu (rp_iret rfl dX11_waysToDry_35)
    refine rp_if_ne 34 dX11_waysToDry_27 (by decide) ?_ ?_
    · refine rp_iconst (0 : Int32) dX11_waysToDry_34 (by decide) ?_
      exact rp_sub [] rfl (rp_pu (hJ35 (0 : Int32)))
    · refine rp_iconst (1 : Int32) dX11_waysToDry_30 (by decide) ?_
      refine rp_goto 35 dX11_waysToDry_31 (by decide) ?_
      exact rp_sub [] rfl (rp_pu (hJ35 (1 : Int32)))
  refine rp_icmp_ge 16 dX11_waysToDry_2 (by decide) ?_ ?_
  · exact rp_sub [0, 1, 2] rfl (hK16 ())
  · refine rp_iload_n 2 dX11_waysToDry_5 rfl ?_
    refine rp_iconst (1 : Int32) dX11_waysToDry_6 (by decide) ?_
    refine rp_iadd dX11_waysToDry_7 ?_
    refine rp_aload_n 0 dX11_waysToDry_8 rfl ?_
    refine rp_getR fi_X11_84 h0 rfl dX11_waysToDry_9 ?_
    refine rp_alen (v := (7 : Int32)) (tX11_11 h0) rfl rfl dX11_waysToDry_12 ?_
    refine rp_icmp_lt 36 dX11_waysToDry_13 (by decide) ?_ ?_
    · refine rp_iconst (0 : Int32) dX11_waysToDry_36 (by decide) ?_
      refine rp_istore [(5, .int (0 : Int32)), (0, .ref (K.2.1 + a0)), (1, .int p1), (2, .int p2), (3, .int p3), (4, .int p4)] dX11_waysToDry_37 (by decide) rfl ?_
      refine rp_iload 5 dX11_waysToDry_39 rfl ?_
      refine rp_as ?_
      refine rp_join 93 (fun (v9 : Int32) => [(0, .ref (K.2.1 + a0)), (1, .int p1), (2, .int p2), (3, .int p3), (4, .int p4), (5, .int v9)]) (fun v9 => []) (fun v9 => ?_) (fun hJ93 => ?_)
      · refine rp_iload 4 dX11_waysToDry_93 rfl ?_
        refine rp_bipush (10 : Int32) dX11_waysToDry_95 (by decide) ?_
        refine rp_as ?_
        refine rp_join 152 (fun (v17 : Int32) => [(5, .int v17)]) (fun v17 => []) (fun v17 => ?_) (fun hJ152 => ?_)
        · refine rp_iload 0 dX11_waysToDry_152 rfl ?_
          exact rp_pu (rp_iret rfl dX11_waysToDry_154)
        refine rp_icmp_ge 152 dX11_waysToDry_97 (by decide) ?_ ?_
        · exact rp_sub [5] rfl (rp_pu (hJ152 v9))
        · refine rp_aload_n 0 dX11_waysToDry_100 rfl ?_
          refine rp_getR fi_X11_84 h0 rfl dX11_waysToDry_101 ?_
          refine rp_iload_n 2 dX11_waysToDry_104 rfl ?_
          refine rp_iconst (1 : Int32) dX11_waysToDry_105 (by decide) ?_
          refine rp_iadd dX11_waysToDry_106 ?_
          refine rp_aald (tX11_11 h0) (Or.inl rfl) dX11_waysToDry_107 (fun hb10 => ?_)
          refine rp_aload_n 0 dX11_waysToDry_108 rfl ?_
          refine rp_getR fi_X11_84 h0 rfl dX11_waysToDry_109 ?_
          refine rp_iload_n 2 dX11_waysToDry_112 rfl ?_
          refine rp_aald (tX11_11 h0) (Or.inl rfl) dX11_waysToDry_113 (fun hb11 => ?_)
          refine rp_callVv [.ref (K.2.1 + (rf (rf a0 11) p2.toNatClampNeg))] (SX4_copyFrom (hn := hn) (rf (rf a0 11) (p2 + (1 : Int32)).toNatClampNeg) (rf (rf a0 11) p2.toNatClampNeg) (arr4 (tX11_11 h0) hb10) (arr4 (tX11_11 h0) hb11)) cvX4_copyFrom (mw (i := 988) (by decide +kernel)) (by omega) (arr4 (tX11_11 h0) hb10) (by decide) rfl rfl rfl (Nat.le_of_ble_eq_true rfl) dX11_waysToDry_114 (fun x12 => ?_)
          refine rp_aload_n 0 dX11_waysToDry_117 rfl ?_
          refine rp_getR fi_X11_84 h0 rfl dX11_waysToDry_118 ?_
          refine rp_iload_n 2 dX11_waysToDry_121 rfl ?_
          refine rp_iconst (1 : Int32) dX11_waysToDry_122 (by decide) ?_
          refine rp_iadd dX11_waysToDry_123 ?_
          refine rp_aald (tX11_11 h0) (Or.inl rfl) dX11_waysToDry_124 (fun hb13 => ?_)
          refine rp_iconst (0 : Int32) dX11_waysToDry_125 (by decide) ?_
          refine rp_callVi [.int (0 : Int32)] (SX4_passHour (hn := hn) (rf (rf a0 11) (p2 + (1 : Int32)).toNatClampNeg) (0 : Int32) (arr4 (tX11_11 h0) hb13)) cvX4_passHour (mw (i := 901) (by decide +kernel)) (by omega) (arr4 (tX11_11 h0) hb13) (by decide) rfl rfl rfl (Nat.le_of_ble_eq_true rfl) dX11_waysToDry_126 (fun x14 => ?_)
          refine rp_pop dX11_waysToDry_129 rfl ?_
          refine rp_iload 5 dX11_waysToDry_130 rfl ?_
          refine rp_bipush (10 : Int32) dX11_waysToDry_132 (by decide) ?_
          refine rp_iload 4 dX11_waysToDry_134 rfl ?_
          refine rp_isub dX11_waysToDry_136 ?_
          refine rp_aload_n 0 dX11_waysToDry_137 rfl ?_
          refine rp_iload_n 1 dX11_waysToDry_138 rfl ?_
          refine rp_iload_n 2 dX11_waysToDry_139 rfl ?_
          refine rp_iconst (1 : Int32) dX11_waysToDry_140 (by decide) ?_
          refine rp_iadd dX11_waysToDry_141 ?_
          refine rp_iload_n 3 dX11_waysToDry_142 rfl ?_
          refine rp_iload 4 dX11_waysToDry_143 rfl ?_
          refine rp_callVi [.int p1, .int (p2 + (1 : Int32)), .int p3, .int p4] (hs a0 p1 (p2 + (1 : Int32)) p3 p4 h0) cvX11_waysToDry (mw (i := 1006) (by decide +kernel)) (by omega) h0 (by decide) rfl rfl rfl (Nat.le_of_ble_eq_true rfl) dX11_waysToDry_145 (fun x15 => ?_)
          refine rp_imul dX11_waysToDry_148 ?_
          refine rp_iadd dX11_waysToDry_149 ?_
          refine rp_lti (fun y16 => ?_)
          refine rp_istore [(5, .int y16), (0, .ref (K.2.1 + a0)), (1, .int p1), (2, .int p2), (3, .int p3), (4, .int p4)] dX11_waysToDry_150 (by decide) rfl ?_
          exact rp_sub [0] rfl (rp_pu (hJ152 y16))
      refine rp_if_le 93 dX11_waysToDry_41 (by decide) ?_ ?_
      · exact rp_sub [1, 2, 3, 4, 5, 0] rfl (rp_pu (hJ93 (0 : Int32)))
      · refine rp_aload_n 1 dX11_waysToDry_44 rfl ?_
        refine rp_getR fi_X11_84 h0 rfl dX11_waysToDry_45 ?_
        refine rp_iload_n 3 dX11_waysToDry_48 rfl ?_
        refine rp_iconst (1 : Int32) dX11_waysToDry_49 (by decide) ?_
        refine rp_iadd dX11_waysToDry_50 ?_
        refine rp_aald (tX11_11 h0) (Or.inl rfl) dX11_waysToDry_51 (fun hb2 => ?_)
        refine rp_aload_n 1 dX11_waysToDry_52 rfl ?_
        refine rp_getR fi_X11_84 h0 rfl dX11_waysToDry_53 ?_
        refine rp_iload_n 3 dX11_waysToDry_56 rfl ?_
        refine rp_aald (tX11_11 h0) (Or.inl rfl) dX11_waysToDry_57 (fun hb3 => ?_)
        refine rp_callVv [.ref (K.2.1 + (rf (rf a0 11) p2.toNatClampNeg))] (SX4_copyFrom (hn := hn) (rf (rf a0 11) (p2 + (1 : Int32)).toNatClampNeg) (rf (rf a0 11) p2.toNatClampNeg) (arr4 (tX11_11 h0) hb2) (arr4 (tX11_11 h0) hb3)) cvX4_copyFrom (mw (i := 988) (by decide +kernel)) (by omega) (arr4 (tX11_11 h0) hb2) (by decide) rfl rfl rfl (Nat.le_of_ble_eq_true rfl) dX11_waysToDry_58 (fun x4 => ?_)
        refine rp_aload_n 1 dX11_waysToDry_61 rfl ?_
        refine rp_getR fi_X11_84 h0 rfl dX11_waysToDry_62 ?_
        refine rp_iload_n 3 dX11_waysToDry_65 rfl ?_
        refine rp_iconst (1 : Int32) dX11_waysToDry_66 (by decide) ?_
        refine rp_iadd dX11_waysToDry_67 ?_
        refine rp_aald (tX11_11 h0) (Or.inl rfl) dX11_waysToDry_68 (fun hb5 => ?_)
        refine rp_iconst (1 : Int32) dX11_waysToDry_69 (by decide) ?_
        refine rp_callVi [.int (1 : Int32)] (SX4_passHour (hn := hn) (rf (rf a0 11) (p2 + (1 : Int32)).toNatClampNeg) (1 : Int32) (arr4 (tX11_11 h0) hb5)) cvX4_passHour (mw (i := 901) (by decide +kernel)) (by omega) (arr4 (tX11_11 h0) hb5) (by decide) rfl rfl rfl (Nat.le_of_ble_eq_true rfl) dX11_waysToDry_70 (fun x6 => ?_)
        refine rp_pop dX11_waysToDry_73 rfl ?_
        refine rp_iload 0 dX11_waysToDry_74 rfl ?_
        refine rp_iload 5 dX11_waysToDry_76 rfl ?_
        refine rp_aload_n 1 dX11_waysToDry_78 rfl ?_
        refine rp_iload_n 2 dX11_waysToDry_79 rfl ?_
        refine rp_iload_n 3 dX11_waysToDry_80 rfl ?_
        refine rp_iconst (1 : Int32) dX11_waysToDry_81 (by decide) ?_
        refine rp_iadd dX11_waysToDry_82 ?_
        refine rp_iload_n 4 dX11_waysToDry_83 rfl ?_
        refine rp_iload 5 dX11_waysToDry_84 rfl ?_
        refine rp_callVi [.int p1, .int (p2 + (1 : Int32)), .int p3, .int p4] (hs a0 p1 (p2 + (1 : Int32)) p3 p4 h0) cvX11_waysToDry (mw (i := 1006) (by decide +kernel)) (by omega) h0 (by decide) rfl rfl rfl (Nat.le_of_ble_eq_true rfl) dX11_waysToDry_86 (fun x7 => ?_)
        refine rp_imul dX11_waysToDry_89 ?_
        refine rp_iadd dX11_waysToDry_90 ?_
        refine rp_lti (fun y8 => ?_)
        refine rp_istore [(5, .int y8), (0, .ref (K.2.1 + a0)), (1, .int p1), (2, .int p2), (3, .int p3), (4, .int p4)] dX11_waysToDry_91 (by decide) rfl ?_
        exact rp_sub [1, 2, 3, 4, 5, 0] rfl (rp_pu (hJ93 y8))
    · exact rp_sub [0, 1, 2] rfl (hK16 ())
noncomputable def FX11_waysToDry : Nat → Nat → Int32 → Int32 → Int32 → Int32 → PP Int32
  | 0, _, _, _, _, _ => fl
  | k + 1, a0, p1, p2, p3, p4 => GX11_waysToDry (FX11_waysToDry k) a0 p1 p2 p3 p4
theorem SX11_waysToDry {l : Launch} {K : KK} {n : Nat} {hn : 270 ≤ n} : ∀ (k : Nat) (a0 : Nat) (p1 : Int32) (p2 : Int32) (p3 : Int32) (p4 : Int32) (h0 : ob a0 10), CT l K n (3 * k) mX11_waysToDry [.ref (K.2.1 + a0), .int p1, .int p2, .int p3, .int p4] enI (FX11_waysToDry k a0 p1 p2 p3 p4)
  | 0, _, _, _, _, _, _ => fun σ r σ' q => by cases q
  | k + 1, a0, p1, p2, p3, p4, h0 => SGX11_waysToDry (hn := hn) (dp := 3 * k) (fun z0 z1 z2 z3 z4 z5 => SX11_waysToDry (hn := hn) k z0 z1 z2 z3 z4 z5) a0 p1 p2 p3 p4 h0
