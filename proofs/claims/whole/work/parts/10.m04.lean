theorem dX7_addLine_0 : decode cX7_addLine 0 = .ok (.aload_n 0, 1) := by decide +kernel
theorem dX7_addLine_1 : decode cX7_addLine 1 = .ok (.getfield 44, 3) := by decide +kernel
theorem dX7_addLine_4 : decode cX7_addLine 4 = .ok (.iconst 5, 1) := by decide +kernel
theorem dX7_addLine_5 : decode cX7_addLine 5 = .ok (.if_icmp .ge 43, 3) := by decide +kernel
theorem dX7_addLine_8 : decode cX7_addLine 8 = .ok (.aload_n 0, 1) := by decide +kernel
theorem dX7_addLine_9 : decode cX7_addLine 9 = .ok (.getfield 9, 3) := by decide +kernel
theorem dX7_addLine_12 : decode cX7_addLine 12 = .ok (.aload_n 0, 1) := by decide +kernel
theorem dX7_addLine_13 : decode cX7_addLine 13 = .ok (.getfield 44, 3) := by decide +kernel
theorem dX7_addLine_16 : decode cX7_addLine 16 = .ok (.lload_n 1, 1) := by decide +kernel
theorem dX7_addLine_17 : decode cX7_addLine 17 = .ok (.lastore, 1) := by decide +kernel
theorem dX7_addLine_18 : decode cX7_addLine 18 = .ok (.aload_n 0, 1) := by decide +kernel
theorem dX7_addLine_19 : decode cX7_addLine 19 = .ok (.getfield 21, 3) := by decide +kernel
theorem dX7_addLine_22 : decode cX7_addLine 22 = .ok (.aload_n 0, 1) := by decide +kernel
theorem dX7_addLine_23 : decode cX7_addLine 23 = .ok (.getfield 44, 3) := by decide +kernel
theorem dX7_addLine_26 : decode cX7_addLine 26 = .ok (.iload_n 3, 1) := by decide +kernel
theorem dX7_addLine_27 : decode cX7_addLine 27 = .ok (.iastore, 1) := by decide +kernel
theorem dX7_addLine_28 : decode cX7_addLine 28 = .ok (.aload_n 0, 1) := by decide +kernel
theorem dX7_addLine_29 : decode cX7_addLine 29 = .ok (.getfield 25, 3) := by decide +kernel
theorem dX7_addLine_32 : decode cX7_addLine 32 = .ok (.aload_n 0, 1) := by decide +kernel
theorem dX7_addLine_33 : decode cX7_addLine 33 = .ok (.getfield 44, 3) := by decide +kernel
theorem dX7_addLine_36 : decode cX7_addLine 36 = .ok (.iconst 0, 1) := by decide +kernel
theorem dX7_addLine_37 : decode cX7_addLine 37 = .ok (.iastore, 1) := by decide +kernel
theorem dX7_addLine_38 : decode cX7_addLine 38 = .ok (.aload_n 0, 1) := by decide +kernel
theorem dX7_addLine_39 : decode cX7_addLine 39 = .ok (.dup, 1) := by decide +kernel
theorem dX7_addLine_40 : decode cX7_addLine 40 = .ok (.getfield 44, 3) := by decide +kernel
theorem dX7_addLine_43 : decode cX7_addLine 43 = .ok (.iconst 1, 1) := by decide +kernel
theorem dX7_addLine_44 : decode cX7_addLine 44 = .ok (.iadd, 1) := by decide +kernel
theorem dX7_addLine_45 : decode cX7_addLine 45 = .ok (.putfield 44, 3) := by decide +kernel
theorem dX7_addLine_48 : decode cX7_addLine 48 = .ok (.return_, 1) := by decide +kernel
noncomputable def FX7_addLine (a0 : Nat) (p1 : Int64) (p2 : Int32) : PP Unit := bd (gI a0 9) (fun x1 => bd (if (5 : Int32) ≤ x1 then pu () else bd (gI a0 9) (fun x2 => bd (uL (rf a0 0) 5 x2 p1) (fun (_ : Unit) => bd (gI a0 9) (fun x3 => bd (uI (rf a0 3) 5 x3 p2) (fun (_ : Unit) => bd (gI a0 9) (fun x4 => bd (uI (rf a0 4) 5 x4 (0 : Int32)) (fun (_ : Unit) => bd (gI a0 9) (fun x5 => bd (sI a0 9 (x5 + (1 : Int32))) (fun (_ : Unit) => pu ())))))))) : PP (Unit)) (fun (v6 : Unit) => pu ()))
set_option maxHeartbeats 4000000 in
set_option maxRecDepth 100000 in
theorem SX7_addLine {l : Launch} {K : KK} {n : Nat} {hn : 270 ≤ n} (a0 : Nat) (p1 : Int64) (p2 : Int32) (h0 : ob a0 7) : CT l K n 0 mX7_addLine [.ref (K.2.1 + a0), .long p1, .int p2] enU (FX7_addLine a0 p1 p2) := by
  refine CT.of2 (lv2 := [(0, .ref (K.2.1 + a0)), (1, .long p1), (3, .int p2)]) (by decide) rfl hn (Nat.le_of_ble_eq_true rfl) rfl (rp_id ?_)
  unfold FX7_addLine
  refine rp_aload_n 0 dX7_addLine_0 rfl ?_
  refine rp_getI fi_X7_44 h0 rfl dX7_addLine_1 (fun x1 => ?_)
  refine rp_iconst (5 : Int32) dX7_addLine_4 (by decide) ?_
  refine rp_as ?_
  refine rp_join 48 (fun (v6 : Unit) => []) (fun v6 => []) (fun v6 => ?_) (fun hJ48 => ?_)
  · exact rp_pu (rp_vret rfl dX7_addLine_48)
  refine rp_icmp_ge 48 dX7_addLine_5 (by decide) ?_ ?_
  · exact rp_sub [] rfl (rp_pu (hJ48 ()))
  · refine rp_aload_n 0 dX7_addLine_8 rfl ?_
    refine rp_getR fi_X7_9 h0 rfl dX7_addLine_9 ?_
    refine rp_aload_n 0 dX7_addLine_12 rfl ?_
    refine rp_getI fi_X7_44 h0 rfl dX7_addLine_13 (fun x2 => ?_)
    refine rp_lload_n 1 dX7_addLine_16 rfl ?_
    refine rp_last (tX7_0 h0) dX7_addLine_17 ?_
    refine rp_aload_n 0 dX7_addLine_18 rfl ?_
    refine rp_getR fi_X7_21 h0 rfl dX7_addLine_19 ?_
    refine rp_aload_n 0 dX7_addLine_22 rfl ?_
    refine rp_getI fi_X7_44 h0 rfl dX7_addLine_23 (fun x3 => ?_)
    refine rp_iload_n 2 dX7_addLine_26 rfl ?_
    refine rp_iast (tX7_3 h0) dX7_addLine_27 ?_
    refine rp_aload_n 0 dX7_addLine_28 rfl ?_
    refine rp_getR fi_X7_25 h0 rfl dX7_addLine_29 ?_
    refine rp_aload_n 0 dX7_addLine_32 rfl ?_
    refine rp_getI fi_X7_44 h0 rfl dX7_addLine_33 (fun x4 => ?_)
    refine rp_iconst (0 : Int32) dX7_addLine_36 (by decide) ?_
    refine rp_iast (tX7_4 h0) dX7_addLine_37 ?_
    refine rp_aload_n 0 dX7_addLine_38 rfl ?_
    refine rp_dup dX7_addLine_39 rfl ?_
    refine rp_getI fi_X7_44 h0 rfl dX7_addLine_40 (fun x5 => ?_)
    refine rp_iconst (1 : Int32) dX7_addLine_43 (by decide) ?_
    refine rp_iadd dX7_addLine_44 ?_
    refine rp_putI fi_X7_44 fp_X7_9 h0 rfl dX7_addLine_45 ?_
    exact rp_sub [] rfl (rp_pu (hJ48 ()))

theorem dX7_addPlace_0 : decode cX7_addPlace 0 = .ok (.aload_n 0, 1) := by decide +kernel
theorem dX7_addPlace_1 : decode cX7_addPlace 1 = .ok (.getfield 48, 3) := by decide +kernel
theorem dX7_addPlace_4 : decode cX7_addPlace 4 = .ok (.iconst 4, 1) := by decide +kernel
theorem dX7_addPlace_5 : decode cX7_addPlace 5 = .ok (.if_icmp .ge 33, 3) := by decide +kernel
theorem dX7_addPlace_8 : decode cX7_addPlace 8 = .ok (.aload_n 0, 1) := by decide +kernel
theorem dX7_addPlace_9 : decode cX7_addPlace 9 = .ok (.getfield 15, 3) := by decide +kernel
theorem dX7_addPlace_12 : decode cX7_addPlace 12 = .ok (.aload_n 0, 1) := by decide +kernel
theorem dX7_addPlace_13 : decode cX7_addPlace 13 = .ok (.getfield 48, 3) := by decide +kernel
theorem dX7_addPlace_16 : decode cX7_addPlace 16 = .ok (.lload_n 1, 1) := by decide +kernel
theorem dX7_addPlace_17 : decode cX7_addPlace 17 = .ok (.lastore, 1) := by decide +kernel
theorem dX7_addPlace_18 : decode cX7_addPlace 18 = .ok (.aload_n 0, 1) := by decide +kernel
theorem dX7_addPlace_19 : decode cX7_addPlace 19 = .ok (.getfield 28, 3) := by decide +kernel
theorem dX7_addPlace_22 : decode cX7_addPlace 22 = .ok (.aload_n 0, 1) := by decide +kernel
theorem dX7_addPlace_23 : decode cX7_addPlace 23 = .ok (.getfield 48, 3) := by decide +kernel
theorem dX7_addPlace_26 : decode cX7_addPlace 26 = .ok (.iload_n 3, 1) := by decide +kernel
theorem dX7_addPlace_27 : decode cX7_addPlace 27 = .ok (.iastore, 1) := by decide +kernel
theorem dX7_addPlace_28 : decode cX7_addPlace 28 = .ok (.aload_n 0, 1) := by decide +kernel
theorem dX7_addPlace_29 : decode cX7_addPlace 29 = .ok (.dup, 1) := by decide +kernel
theorem dX7_addPlace_30 : decode cX7_addPlace 30 = .ok (.getfield 48, 3) := by decide +kernel
theorem dX7_addPlace_33 : decode cX7_addPlace 33 = .ok (.iconst 1, 1) := by decide +kernel
theorem dX7_addPlace_34 : decode cX7_addPlace 34 = .ok (.iadd, 1) := by decide +kernel
theorem dX7_addPlace_35 : decode cX7_addPlace 35 = .ok (.putfield 48, 3) := by decide +kernel
theorem dX7_addPlace_38 : decode cX7_addPlace 38 = .ok (.return_, 1) := by decide +kernel
noncomputable def FX7_addPlace (a0 : Nat) (p1 : Int64) (p2 : Int32) : PP Unit := bd (gI a0 10) (fun x1 => bd (if (4 : Int32) ≤ x1 then pu () else bd (gI a0 10) (fun x2 => bd (uL (rf a0 1) 4 x2 p1) (fun (_ : Unit) => bd (gI a0 10) (fun x3 => bd (uI (rf a0 5) 4 x3 p2) (fun (_ : Unit) => bd (gI a0 10) (fun x4 => bd (sI a0 10 (x4 + (1 : Int32))) (fun (_ : Unit) => pu ())))))) : PP (Unit)) (fun (v5 : Unit) => pu ()))
set_option maxHeartbeats 4000000 in
set_option maxRecDepth 100000 in
theorem SX7_addPlace {l : Launch} {K : KK} {n : Nat} {hn : 270 ≤ n} (a0 : Nat) (p1 : Int64) (p2 : Int32) (h0 : ob a0 7) : CT l K n 0 mX7_addPlace [.ref (K.2.1 + a0), .long p1, .int p2] enU (FX7_addPlace a0 p1 p2) := by
  refine CT.of2 (lv2 := [(0, .ref (K.2.1 + a0)), (1, .long p1), (3, .int p2)]) (by decide) rfl hn (Nat.le_of_ble_eq_true rfl) rfl (rp_id ?_)
  unfold FX7_addPlace
  refine rp_aload_n 0 dX7_addPlace_0 rfl ?_
  refine rp_getI fi_X7_48 h0 rfl dX7_addPlace_1 (fun x1 => ?_)
  refine rp_iconst (4 : Int32) dX7_addPlace_4 (by decide) ?_
  refine rp_as ?_
  refine rp_join 38 (fun (v5 : Unit) => []) (fun v5 => []) (fun v5 => ?_) (fun hJ38 => ?_)
  · exact rp_pu (rp_vret rfl dX7_addPlace_38)
  refine rp_icmp_ge 38 dX7_addPlace_5 (by decide) ?_ ?_
  · exact rp_sub [] rfl (rp_pu (hJ38 ()))
  · refine rp_aload_n 0 dX7_addPlace_8 rfl ?_
    refine rp_getR fi_X7_15 h0 rfl dX7_addPlace_9 ?_
    refine rp_aload_n 0 dX7_addPlace_12 rfl ?_
    refine rp_getI fi_X7_48 h0 rfl dX7_addPlace_13 (fun x2 => ?_)
    refine rp_lload_n 1 dX7_addPlace_16 rfl ?_
    refine rp_last (tX7_1 h0) dX7_addPlace_17 ?_
    refine rp_aload_n 0 dX7_addPlace_18 rfl ?_
    refine rp_getR fi_X7_28 h0 rfl dX7_addPlace_19 ?_
    refine rp_aload_n 0 dX7_addPlace_22 rfl ?_
    refine rp_getI fi_X7_48 h0 rfl dX7_addPlace_23 (fun x3 => ?_)
    refine rp_iload_n 2 dX7_addPlace_26 rfl ?_
    refine rp_iast (tX7_5 h0) dX7_addPlace_27 ?_
    refine rp_aload_n 0 dX7_addPlace_28 rfl ?_
    refine rp_dup dX7_addPlace_29 rfl ?_
    refine rp_getI fi_X7_48 h0 rfl dX7_addPlace_30 (fun x4 => ?_)
    refine rp_iconst (1 : Int32) dX7_addPlace_33 (by decide) ?_
    refine rp_iadd dX7_addPlace_34 ?_
    refine rp_putI fi_X7_48 fp_X7_10 h0 rfl dX7_addPlace_35 ?_
    exact rp_sub [] rfl (rp_pu (hJ38 ()))

theorem dX7_addCloth_0 : decode cX7_addCloth 0 = .ok (.aload_n 0, 1) := by decide +kernel
theorem dX7_addCloth_1 : decode cX7_addCloth 1 = .ok (.getfield 51, 3) := by decide +kernel
theorem dX7_addCloth_4 : decode cX7_addCloth 4 = .ok (.bipush 6, 2) := by decide +kernel
theorem dX7_addCloth_6 : decode cX7_addCloth 6 = .ok (.if_icmp .ge 44, 3) := by decide +kernel
theorem dX7_addCloth_9 : decode cX7_addCloth 9 = .ok (.aload_n 0, 1) := by decide +kernel
theorem dX7_addCloth_10 : decode cX7_addCloth 10 = .ok (.getfield 18, 3) := by decide +kernel
theorem dX7_addCloth_13 : decode cX7_addCloth 13 = .ok (.aload_n 0, 1) := by decide +kernel
theorem dX7_addCloth_14 : decode cX7_addCloth 14 = .ok (.getfield 51, 3) := by decide +kernel
theorem dX7_addCloth_17 : decode cX7_addCloth 17 = .ok (.lload_n 1, 1) := by decide +kernel
theorem dX7_addCloth_18 : decode cX7_addCloth 18 = .ok (.lastore, 1) := by decide +kernel
theorem dX7_addCloth_19 : decode cX7_addCloth 19 = .ok (.aload_n 0, 1) := by decide +kernel
theorem dX7_addCloth_20 : decode cX7_addCloth 20 = .ok (.getfield 31, 3) := by decide +kernel
theorem dX7_addCloth_23 : decode cX7_addCloth 23 = .ok (.aload_n 0, 1) := by decide +kernel
theorem dX7_addCloth_24 : decode cX7_addCloth 24 = .ok (.getfield 51, 3) := by decide +kernel
theorem dX7_addCloth_27 : decode cX7_addCloth 27 = .ok (.iload_n 3, 1) := by decide +kernel
theorem dX7_addCloth_28 : decode cX7_addCloth 28 = .ok (.iastore, 1) := by decide +kernel
theorem dX7_addCloth_29 : decode cX7_addCloth 29 = .ok (.aload_n 0, 1) := by decide +kernel
theorem dX7_addCloth_30 : decode cX7_addCloth 30 = .ok (.getfield 34, 3) := by decide +kernel
theorem dX7_addCloth_33 : decode cX7_addCloth 33 = .ok (.aload_n 0, 1) := by decide +kernel
theorem dX7_addCloth_34 : decode cX7_addCloth 34 = .ok (.getfield 51, 3) := by decide +kernel
theorem dX7_addCloth_37 : decode cX7_addCloth 37 = .ok (.iload 4, 2) := by decide +kernel
theorem dX7_addCloth_39 : decode cX7_addCloth 39 = .ok (.iastore, 1) := by decide +kernel
theorem dX7_addCloth_40 : decode cX7_addCloth 40 = .ok (.aload_n 0, 1) := by decide +kernel
theorem dX7_addCloth_41 : decode cX7_addCloth 41 = .ok (.dup, 1) := by decide +kernel
theorem dX7_addCloth_42 : decode cX7_addCloth 42 = .ok (.getfield 51, 3) := by decide +kernel
theorem dX7_addCloth_45 : decode cX7_addCloth 45 = .ok (.iconst 1, 1) := by decide +kernel
theorem dX7_addCloth_46 : decode cX7_addCloth 46 = .ok (.iadd, 1) := by decide +kernel
theorem dX7_addCloth_47 : decode cX7_addCloth 47 = .ok (.putfield 51, 3) := by decide +kernel
theorem dX7_addCloth_50 : decode cX7_addCloth 50 = .ok (.return_, 1) := by decide +kernel
noncomputable def FX7_addCloth (a0 : Nat) (p1 : Int64) (p2 : Int32) (p3 : Int32) : PP Unit := bd (gI a0 11) (fun x1 => bd (if (6 : Int32) ≤ x1 then pu () else bd (gI a0 11) (fun x2 => bd (uL (rf a0 2) 6 x2 p1) (fun (_ : Unit) => bd (gI a0 11) (fun x3 => bd (uI (rf a0 6) 6 x3 p2) (fun (_ : Unit) => bd (gI a0 11) (fun x4 => bd (uI (rf a0 7) 6 x4 p3) (fun (_ : Unit) => bd (gI a0 11) (fun x5 => bd (sI a0 11 (x5 + (1 : Int32))) (fun (_ : Unit) => pu ())))))))) : PP (Unit)) (fun (v6 : Unit) => pu ()))
set_option maxHeartbeats 4000000 in
set_option maxRecDepth 100000 in
theorem SX7_addCloth {l : Launch} {K : KK} {n : Nat} {hn : 270 ≤ n} (a0 : Nat) (p1 : Int64) (p2 : Int32) (p3 : Int32) (h0 : ob a0 7) : CT l K n 0 mX7_addCloth [.ref (K.2.1 + a0), .long p1, .int p2, .int p3] enU (FX7_addCloth a0 p1 p2 p3) := by
  refine CT.of2 (lv2 := [(0, .ref (K.2.1 + a0)), (1, .long p1), (3, .int p2), (4, .int p3)]) (by decide) rfl hn (Nat.le_of_ble_eq_true rfl) rfl (rp_id ?_)
  unfold FX7_addCloth
  refine rp_aload_n 0 dX7_addCloth_0 rfl ?_
  refine rp_getI fi_X7_51 h0 rfl dX7_addCloth_1 (fun x1 => ?_)
  refine rp_bipush (6 : Int32) dX7_addCloth_4 (by decide) ?_
  refine rp_as ?_
  refine rp_join 50 (fun (v6 : Unit) => []) (fun v6 => []) (fun v6 => ?_) (fun hJ50 => ?_)
  · exact rp_pu (rp_vret rfl dX7_addCloth_50)
  refine rp_icmp_ge 50 dX7_addCloth_6 (by decide) ?_ ?_
  · exact rp_sub [] rfl (rp_pu (hJ50 ()))
  · refine rp_aload_n 0 dX7_addCloth_9 rfl ?_
    refine rp_getR fi_X7_18 h0 rfl dX7_addCloth_10 ?_
    refine rp_aload_n 0 dX7_addCloth_13 rfl ?_
    refine rp_getI fi_X7_51 h0 rfl dX7_addCloth_14 (fun x2 => ?_)
    refine rp_lload_n 1 dX7_addCloth_17 rfl ?_
    refine rp_last (tX7_2 h0) dX7_addCloth_18 ?_
    refine rp_aload_n 0 dX7_addCloth_19 rfl ?_
    refine rp_getR fi_X7_31 h0 rfl dX7_addCloth_20 ?_
    refine rp_aload_n 0 dX7_addCloth_23 rfl ?_
    refine rp_getI fi_X7_51 h0 rfl dX7_addCloth_24 (fun x3 => ?_)
    refine rp_iload_n 2 dX7_addCloth_27 rfl ?_
    refine rp_iast (tX7_6 h0) dX7_addCloth_28 ?_
    refine rp_aload_n 0 dX7_addCloth_29 rfl ?_
    refine rp_getR fi_X7_34 h0 rfl dX7_addCloth_30 ?_
    refine rp_aload_n 0 dX7_addCloth_33 rfl ?_
    refine rp_getI fi_X7_51 h0 rfl dX7_addCloth_34 (fun x4 => ?_)
    refine rp_iload 3 dX7_addCloth_37 rfl ?_
    refine rp_iast (tX7_7 h0) dX7_addCloth_39 ?_
    refine rp_aload_n 0 dX7_addCloth_40 rfl ?_
    refine rp_dup dX7_addCloth_41 rfl ?_
    refine rp_getI fi_X7_51 h0 rfl dX7_addCloth_42 (fun x5 => ?_)
    refine rp_iconst (1 : Int32) dX7_addCloth_45 (by decide) ?_
    refine rp_iadd dX7_addCloth_46 ?_
    refine rp_putI fi_X7_51 fp_X7_11 h0 rfl dX7_addCloth_47 ?_
    exact rp_sub [] rfl (rp_pu (hJ50 ()))

theorem dX7_addCrossing_0 : decode cX7_addCrossing 0 = .ok (.aload_n 0, 1) := by decide +kernel
theorem dX7_addCrossing_1 : decode cX7_addCrossing 1 = .ok (.iload_n 1, 1) := by decide +kernel
theorem dX7_addCrossing_2 : decode cX7_addCrossing 2 = .ok (.invokevirtual 67, 3) := by decide +kernel
theorem dX7_addCrossing_5 : decode cX7_addCrossing 5 = .ok (.ifCond .eq 35, 3) := by decide +kernel
theorem dX7_addCrossing_8 : decode cX7_addCrossing 8 = .ok (.aload_n 0, 1) := by decide +kernel
theorem dX7_addCrossing_9 : decode cX7_addCrossing 9 = .ok (.iload_n 2, 1) := by decide +kernel
theorem dX7_addCrossing_10 : decode cX7_addCrossing 10 = .ok (.invokevirtual 67, 3) := by decide +kernel
theorem dX7_addCrossing_13 : decode cX7_addCrossing 13 = .ok (.ifCond .eq 27, 3) := by decide +kernel
theorem dX7_addCrossing_16 : decode cX7_addCrossing 16 = .ok (.aload_n 0, 1) := by decide +kernel
theorem dX7_addCrossing_17 : decode cX7_addCrossing 17 = .ok (.getfield 25, 3) := by decide +kernel
theorem dX7_addCrossing_20 : decode cX7_addCrossing 20 = .ok (.iload_n 1, 1) := by decide +kernel
theorem dX7_addCrossing_21 : decode cX7_addCrossing 21 = .ok (.dup2, 1) := by decide +kernel
theorem dX7_addCrossing_22 : decode cX7_addCrossing 22 = .ok (.iaload, 1) := by decide +kernel
theorem dX7_addCrossing_23 : decode cX7_addCrossing 23 = .ok (.iconst 1, 1) := by decide +kernel
theorem dX7_addCrossing_24 : decode cX7_addCrossing 24 = .ok (.iload_n 2, 1) := by decide +kernel
theorem dX7_addCrossing_25 : decode cX7_addCrossing 25 = .ok (.ishl, 1) := by decide +kernel
theorem dX7_addCrossing_26 : decode cX7_addCrossing 26 = .ok (.ior, 1) := by decide +kernel
theorem dX7_addCrossing_27 : decode cX7_addCrossing 27 = .ok (.iastore, 1) := by decide +kernel
theorem dX7_addCrossing_28 : decode cX7_addCrossing 28 = .ok (.aload_n 0, 1) := by decide +kernel
theorem dX7_addCrossing_29 : decode cX7_addCrossing 29 = .ok (.getfield 25, 3) := by decide +kernel
theorem dX7_addCrossing_32 : decode cX7_addCrossing 32 = .ok (.iload_n 2, 1) := by decide +kernel
theorem dX7_addCrossing_33 : decode cX7_addCrossing 33 = .ok (.dup2, 1) := by decide +kernel
theorem dX7_addCrossing_34 : decode cX7_addCrossing 34 = .ok (.iaload, 1) := by decide +kernel
theorem dX7_addCrossing_35 : decode cX7_addCrossing 35 = .ok (.iconst 1, 1) := by decide +kernel
theorem dX7_addCrossing_36 : decode cX7_addCrossing 36 = .ok (.iload_n 1, 1) := by decide +kernel
theorem dX7_addCrossing_37 : decode cX7_addCrossing 37 = .ok (.ishl, 1) := by decide +kernel
theorem dX7_addCrossing_38 : decode cX7_addCrossing 38 = .ok (.ior, 1) := by decide +kernel
theorem dX7_addCrossing_39 : decode cX7_addCrossing 39 = .ok (.iastore, 1) := by decide +kernel
theorem dX7_addCrossing_40 : decode cX7_addCrossing 40 = .ok (.return_, 1) := by decide +kernel
noncomputable def FX7_addCrossing (a0 : Nat) (p1 : Int32) (p2 : Int32) : PP Unit := bd (FX7_hasLine a0 p1) (fun x1 => bd (if ((b2i x1)) = 0 then pu () else bd (FX7_hasLine a0 p2) (fun x2 => if ((b2i x2)) = 0 then pu () else bd (aI (rf a0 4) 5 p1) (fun x3 => bd (uI (rf a0 4) 5 p1 (x3 ||| ((1 : Int32) <<< (p2 &&& 31)))) (fun (_ : Unit) => bd (aI (rf a0 4) 5 p2) (fun x4 => bd (uI (rf a0 4) 5 p2 (x4 ||| ((1 : Int32) <<< (p1 &&& 31)))) (fun (_ : Unit) => pu ()))))) : PP (Unit)) (fun (v5 : Unit) => pu ()))
set_option maxHeartbeats 4000000 in
set_option maxRecDepth 100000 in
theorem SX7_addCrossing {l : Launch} {K : KK} {n : Nat} {hn : 270 ≤ n} (a0 : Nat) (p1 : Int32) (p2 : Int32) (h0 : ob a0 7) : CT l K n 1 mX7_addCrossing [.ref (K.2.1 + a0), .int p1, .int p2] enU (FX7_addCrossing a0 p1 p2) := by
  refine CT.of2 (lv2 := [(0, .ref (K.2.1 + a0)), (1, .int p1), (2, .int p2)]) (by decide) rfl hn (Nat.le_of_ble_eq_true rfl) rfl (rp_id ?_)
  unfold FX7_addCrossing
  refine rp_aload_n 0 dX7_addCrossing_0 rfl ?_
  refine rp_iload_n 1 dX7_addCrossing_1 rfl ?_
  refine rp_callVz [.int p1] (SX7_hasLine (hn := hn) a0 p1 h0) cvX7_hasLine (mw (i := 679) (by decide +kernel)) (by omega) h0 (by decide) rfl rfl rfl (Nat.le_of_ble_eq_true rfl) dX7_addCrossing_2 (fun x1 => ?_)
  refine rp_as ?_
  refine rp_join 40 (fun (v5 : Unit) => []) (fun v5 => []) (fun v5 => ?_) (fun hJ40 => ?_)
  · exact rp_pu (rp_vret rfl dX7_addCrossing_40)
  refine rp_if_eq 40 dX7_addCrossing_5 (by decide) ?_ ?_
  · exact rp_sub [] rfl (rp_pu (hJ40 ()))
  · refine rp_aload_n 0 dX7_addCrossing_8 rfl ?_
    refine rp_iload_n 2 dX7_addCrossing_9 rfl ?_
    refine rp_callVz [.int p2] (SX7_hasLine (hn := hn) a0 p2 h0) cvX7_hasLine (mw (i := 679) (by decide +kernel)) (by omega) h0 (by decide) rfl rfl rfl (Nat.le_of_ble_eq_true rfl) dX7_addCrossing_10 (fun x2 => ?_)
    refine rp_if_eq 40 dX7_addCrossing_13 (by decide) ?_ ?_
    · exact rp_sub [] rfl (rp_pu (hJ40 ()))
    · refine rp_aload_n 0 dX7_addCrossing_16 rfl ?_
      refine rp_getR fi_X7_25 h0 rfl dX7_addCrossing_17 ?_
      refine rp_iload_n 1 dX7_addCrossing_20 rfl ?_
      refine rp_dup2 dX7_addCrossing_21 rfl rfl ?_
      refine rp_iald (tX7_4 h0) dX7_addCrossing_22 (fun x3 => ?_)
      refine rp_iconst (1 : Int32) dX7_addCrossing_23 (by decide) ?_
      refine rp_iload_n 2 dX7_addCrossing_24 rfl ?_
      refine rp_ishl dX7_addCrossing_25 ?_
      refine rp_ior dX7_addCrossing_26 ?_
      refine rp_iast (tX7_4 h0) dX7_addCrossing_27 ?_
      refine rp_aload_n 0 dX7_addCrossing_28 rfl ?_
      refine rp_getR fi_X7_25 h0 rfl dX7_addCrossing_29 ?_
      refine rp_iload_n 2 dX7_addCrossing_32 rfl ?_
      refine rp_dup2 dX7_addCrossing_33 rfl rfl ?_
      refine rp_iald (tX7_4 h0) dX7_addCrossing_34 (fun x4 => ?_)
      refine rp_iconst (1 : Int32) dX7_addCrossing_35 (by decide) ?_
      refine rp_iload_n 1 dX7_addCrossing_36 rfl ?_
      refine rp_ishl dX7_addCrossing_37 ?_
      refine rp_ior dX7_addCrossing_38 ?_
      refine rp_iast (tX7_4 h0) dX7_addCrossing_39 ?_
      exact rp_sub [] rfl (rp_pu (hJ40 ()))

theorem dX7_indexOf_0 : decode cX7_indexOf 0 = .ok (.iconst 0, 1) := by decide +kernel
theorem dX7_indexOf_1 : decode cX7_indexOf 1 = .ok (.istore 4, 2) := by decide +kernel
theorem dX7_indexOf_3 : decode cX7_indexOf 3 = .ok (.iload 4, 2) := by decide +kernel
theorem dX7_indexOf_5 : decode cX7_indexOf 5 = .ok (.iload_n 3, 1) := by decide +kernel
theorem dX7_indexOf_6 : decode cX7_indexOf 6 = .ok (.if_icmp .ge 28, 3) := by decide +kernel
theorem dX7_indexOf_9 : decode cX7_indexOf 9 = .ok (.iload 4, 2) := by decide +kernel
theorem dX7_indexOf_11 : decode cX7_indexOf 11 = .ok (.aload_n 2, 1) := by decide +kernel
theorem dX7_indexOf_12 : decode cX7_indexOf 12 = .ok (.arraylength, 1) := by decide +kernel
theorem dX7_indexOf_13 : decode cX7_indexOf 13 = .ok (.if_icmp .ge 21, 3) := by decide +kernel
theorem dX7_indexOf_16 : decode cX7_indexOf 16 = .ok (.aload_n 2, 1) := by decide +kernel
theorem dX7_indexOf_17 : decode cX7_indexOf 17 = .ok (.iload 4, 2) := by decide +kernel
theorem dX7_indexOf_19 : decode cX7_indexOf 19 = .ok (.laload, 1) := by decide +kernel
theorem dX7_indexOf_20 : decode cX7_indexOf 20 = .ok (.lload_n 0, 1) := by decide +kernel
theorem dX7_indexOf_21 : decode cX7_indexOf 21 = .ok (.lcmp, 1) := by decide +kernel
theorem dX7_indexOf_22 : decode cX7_indexOf 22 = .ok (.ifCond .ne 6, 3) := by decide +kernel
theorem dX7_indexOf_25 : decode cX7_indexOf 25 = .ok (.iload 4, 2) := by decide +kernel
theorem dX7_indexOf_27 : decode cX7_indexOf 27 = .ok (.ireturn, 1) := by decide +kernel
theorem dX7_indexOf_28 : decode cX7_indexOf 28 = .ok (.iinc 4 1, 3) := by decide +kernel
theorem dX7_indexOf_31 : decode cX7_indexOf 31 = .ok (.goto (-28), 3) := by decide +kernel
theorem dX7_indexOf_34 : decode cX7_indexOf 34 = .ok (.iconst (-1), 1) := by decide +kernel
theorem dX7_indexOf_35 : decode cX7_indexOf 35 = .ok (.ireturn, 1) := by decide +kernel
noncomputable def FX7_indexOf (p1 : Int64) (p2 : Nat) (p3 : Int32) (m : Nat) : PP Int32 := bd (it (fun (s1 : Int32) => (if p3 ≤ s1 then pu (Sum.inr (Sum.inl ())) else if ((Int32.ofNat m)) ≤ s1 then pu (Sum.inr (Sum.inl ())) else bd (aL p2 m s1) (fun x2 => if (lg_cmp x2 p1) = 0 then pu (Sum.inr (Sum.inr (s1))) else lt (s1 + (1 : Int32)) (fun y3 => pu (Sum.inl y3))) : PP ((Int32) ⊕ ((Unit) ⊕ (Int32))))) FU (0 : Int32)) (Sum.elim (fun (v4 : Unit) => pu (-1 : Int32)) (fun (v5 : Int32) => pu v5))
set_option maxHeartbeats 4000000 in
set_option maxRecDepth 100000 in
theorem SX7_indexOf {l : Launch} {K : KK} {n : Nat} {hn : 270 ≤ n} (p1 : Int64) (p2 : Nat) (p3 : Int32) (m : Nat) (h_p2 : ar p2 1 m) : CT l K n 0 mX7_indexOf [.long p1, .ref (K.2.1 + p2), .int p3] enI (FX7_indexOf p1 p2 p3 m) := by
  refine CT.of2 (lv2 := [(0, .long p1), (2, .ref (K.2.1 + p2)), (3, .int p3)]) (by decide) rfl hn (Nat.le_of_ble_eq_true rfl) rfl (rp_id ?_)
  unfold FX7_indexOf
  refine rp_iconst (0 : Int32) dX7_indexOf_0 (by decide) ?_
  refine rp_istore [(4, .int (0 : Int32)), (0, .long p1), (2, .ref (K.2.1 + p2)), (3, .int p3)] dX7_indexOf_1 (by decide) rfl ?_
  refine rp_as ?_
  refine rp_join2 34 (fun v4 => []) (fun _ => []) 25 (fun v5 => [(4, .int v5)]) (fun _ => []) (fun v4 => ?_) (fun v5 => ?_) (fun hX3_0 hX3_1 => ?_)
  · refine rp_iconst (-1 : Int32) dX7_indexOf_34 (by decide) ?_
    exact rp_pu (rp_iret rfl dX7_indexOf_35)
  · refine rp_iload 0 dX7_indexOf_25 rfl ?_
    exact rp_pu (rp_iret rfl dX7_indexOf_27)
  refine rp_sub [1, 2, 3, 0] rfl (rp_it (fun (s1 : Int32) => [(0, .long p1), (2, .ref (K.2.1 + p2)), (3, .int p3), (4, .int s1)]) (fun N3 ih3 s1 => ?_) FU (0 : Int32))
  refine rp_iload 3 dX7_indexOf_3 rfl ?_
  refine rp_iload_n 2 dX7_indexOf_5 rfl ?_
  refine rp_icmp_ge 34 dX7_indexOf_6 (by decide) ?_ ?_
  · exact rp_sub [] rfl (rp_puRL (hX3_0 ()))
  · refine rp_iload 3 dX7_indexOf_9 rfl ?_
    refine rp_aload_n 1 dX7_indexOf_11 rfl ?_
    refine rp_alen (v := (Int32.ofNat m)) h_p2 rfl rfl dX7_indexOf_12 ?_
    refine rp_icmp_ge 34 dX7_indexOf_13 (by decide) ?_ ?_
    · exact rp_sub [] rfl (rp_puRL (hX3_0 ()))
    · refine rp_aload_n 1 dX7_indexOf_16 rfl ?_
      refine rp_iload 3 dX7_indexOf_17 rfl ?_
      refine rp_lald h_p2 dX7_indexOf_19 (fun x2 => ?_)
      refine rp_lload_n 0 dX7_indexOf_20 rfl ?_
      refine rp_lcmp dX7_indexOf_21 ?_
      refine rp_if_ne 28 dX7_indexOf_22 (by decide) ?_ ?_
      · refine rp_iinc (fun y3 => [(4, .int y3), (0, .long p1), (2, .ref (K.2.1 + p2)), (3, .int p3)]) 3 dX7_indexOf_28 rfl (by rfl) (by decide) (fun y3 => rfl) (fun y3 => ?_)
        refine rp_goto 3 dX7_indexOf_31 (by decide) ?_
        exact rp_sub [1, 2, 3, 0] rfl (ih3 y3)
      · exact rp_sub [3] rfl (rp_puRR (hX3_1 s1))

theorem dX5_findName_0 : decode cX5_findName 0 = .ok (.aload_n 0, 1) := by decide +kernel
theorem dX5_findName_1 : decode cX5_findName 1 = .ok (.invokevirtual 88, 3) := by decide +kernel
theorem dX5_findName_4 : decode cX5_findName 4 = .ok (.ifCond .ne 10, 3) := by decide +kernel
theorem dX5_findName_7 : decode cX5_findName 7 = .ok (.aload_n 0, 1) := by decide +kernel
theorem dX5_findName_8 : decode cX5_findName 8 = .ok (.iconst 1, 1) := by decide +kernel
theorem dX5_findName_9 : decode cX5_findName 9 = .ok (.invokevirtual 84, 3) := by decide +kernel
theorem dX5_findName_12 : decode cX5_findName 12 = .ok (.iconst (-1), 1) := by decide +kernel
theorem dX5_findName_13 : decode cX5_findName 13 = .ok (.ireturn, 1) := by decide +kernel
theorem dX5_findName_14 : decode cX5_findName 14 = .ok (.aload_n 0, 1) := by decide +kernel
theorem dX5_findName_15 : decode cX5_findName 15 = .ok (.getfield 32, 3) := by decide +kernel
theorem dX5_findName_18 : decode cX5_findName 18 = .ok (.aload_n 1, 1) := by decide +kernel
theorem dX5_findName_19 : decode cX5_findName 19 = .ok (.iload_n 2, 1) := by decide +kernel
theorem dX5_findName_20 : decode cX5_findName 20 = .ok (.invokestatic 92, 3) := by decide +kernel
theorem dX5_findName_23 : decode cX5_findName 23 = .ok (.istore_n 3, 1) := by decide +kernel
theorem dX5_findName_24 : decode cX5_findName 24 = .ok (.iload_n 3, 1) := by decide +kernel
theorem dX5_findName_25 : decode cX5_findName 25 = .ok (.iconst (-1), 1) := by decide +kernel
theorem dX5_findName_26 : decode cX5_findName 26 = .ok (.if_icmp .ne 8, 3) := by decide +kernel
theorem dX5_findName_29 : decode cX5_findName 29 = .ok (.aload_n 0, 1) := by decide +kernel
theorem dX5_findName_30 : decode cX5_findName 30 = .ok (.iconst 2, 1) := by decide +kernel
theorem dX5_findName_31 : decode cX5_findName 31 = .ok (.invokevirtual 84, 3) := by decide +kernel
theorem dX5_findName_34 : decode cX5_findName 34 = .ok (.iload_n 3, 1) := by decide +kernel
theorem dX5_findName_35 : decode cX5_findName 35 = .ok (.ireturn, 1) := by decide +kernel
noncomputable def FX5_findName (a0 : Nat) (p1 : Nat) (p2 : Int32) (m : Nat) : PP Int32 := bd (FX5_isName a0) (fun x1 => if ((b2i x1)) = 0 then bd (FX5_fail a0 (1 : Int32)) (fun (_ : Unit) => pu (-1 : Int32)) else bd (gL a0 4) (fun x2 => bd (FX7_indexOf x2 p1 p2 m) (fun x3 => bd (if x3 = (-1 : Int32) then bd (FX5_fail a0 (2 : Int32)) (fun (_ : Unit) => pu ()) else pu () : PP (Unit)) (fun (v5 : Unit) => pu x3))))
set_option maxHeartbeats 4000000 in
set_option maxRecDepth 100000 in
theorem SX5_findName {l : Launch} {K : KK} {n : Nat} {hn : 270 ≤ n} (a0 : Nat) (p1 : Nat) (p2 : Int32) (m : Nat) (h0 : ob a0 5) (h_p1 : ar p1 1 m) : CT l K n 1 mX5_findName [.ref (K.2.1 + a0), .ref (K.2.1 + p1), .int p2] enI (FX5_findName a0 p1 p2 m) := by
  refine CT.of2 (lv2 := [(0, .ref (K.2.1 + a0)), (1, .ref (K.2.1 + p1)), (2, .int p2)]) (by decide) rfl hn (Nat.le_of_ble_eq_true rfl) rfl (rp_id ?_)
  unfold FX5_findName
  refine rp_aload_n 0 dX5_findName_0 rfl ?_
  refine rp_callVz [] (SX5_isName (hn := hn) a0 h0) cvX5_isName (mw (i := 643) (by decide +kernel)) (by omega) h0 (by decide) rfl rfl rfl (Nat.le_of_ble_eq_true rfl) dX5_findName_1 (fun x1 => ?_)
  refine rp_if_ne 14 dX5_findName_4 (by decide) ?_ ?_
  · refine rp_aload_n 0 dX5_findName_14 rfl ?_
    refine rp_getL fi_X5_32 h0 rfl dX5_findName_15 (fun x2 => ?_)
    refine rp_aload_n 1 dX5_findName_18 rfl ?_
    refine rp_iload_n 2 dX5_findName_19 rfl ?_
    refine rp_callSi [.long x2, .ref (K.2.1 + p1), .int p2] (SX7_indexOf (hn := hn) x2 p1 p2 m h_p1) csX7_indexOf (mw (i := 644) (by decide +kernel)) (by omega) rfl rfl (Nat.le_of_ble_eq_true rfl) dX5_findName_20 (fun x3 => ?_)
    refine rp_istore_n [(3, .int x3), (0, .ref (K.2.1 + a0)), (1, .ref (K.2.1 + p1)), (2, .int p2)] dX5_findName_23 (by decide) rfl ?_
    refine rp_iload_n 0 dX5_findName_24 rfl ?_
    refine rp_iconst (-1 : Int32) dX5_findName_25 (by decide) ?_
    refine rp_as ?_
    refine rp_join 34 (fun (v5 : Unit) => [(3, .int x3)]) (fun v5 => []) (fun v5 => ?_) (fun hJ34 => ?_)
    · refine rp_iload_n 0 dX5_findName_34 rfl ?_
      exact rp_pu (rp_iret rfl dX5_findName_35)
    refine rp_icmp_ne 34 dX5_findName_26 (by decide) ?_ ?_
    · exact rp_sub [0] rfl (rp_pu (hJ34 ()))
    · refine rp_aload_n 1 dX5_findName_29 rfl ?_
      refine rp_iconst (2 : Int32) dX5_findName_30 (by decide) ?_
      refine rp_callVv [.int (2 : Int32)] (SX5_fail (hn := hn) a0 (2 : Int32) h0) cvX5_fail (mw (i := 614) (by decide +kernel)) (by omega) h0 (by decide) rfl rfl rfl (Nat.le_of_ble_eq_true rfl) dX5_findName_31 (fun x4 => ?_)
      exact rp_sub [0] rfl (rp_pu (hJ34 ()))
  · refine rp_aload_n 0 dX5_findName_7 rfl ?_
    refine rp_iconst (1 : Int32) dX5_findName_8 (by decide) ?_
    refine rp_callVv [.int (1 : Int32)] (SX5_fail (hn := hn) a0 (1 : Int32) h0) cvX5_fail (mw (i := 614) (by decide +kernel)) (by omega) h0 (by decide) rfl rfl rfl (Nat.le_of_ble_eq_true rfl) dX5_findName_9 (fun x6 => ?_)
    refine rp_iconst (-1 : Int32) dX5_findName_12 (by decide) ?_
    exact rp_pu (rp_iret rfl dX5_findName_13)

theorem dX7_isTold_0 : decode cX7_isTold 0 = .ok (.lload_n 1, 1) := by decide +kernel
theorem dX7_isTold_1 : decode cX7_isTold 1 = .ok (.aload_n 0, 1) := by decide +kernel
theorem dX7_isTold_2 : decode cX7_isTold 2 = .ok (.getfield 9, 3) := by decide +kernel
theorem dX7_isTold_5 : decode cX7_isTold 5 = .ok (.aload_n 0, 1) := by decide +kernel
theorem dX7_isTold_6 : decode cX7_isTold 6 = .ok (.getfield 44, 3) := by decide +kernel
theorem dX7_isTold_9 : decode cX7_isTold 9 = .ok (.invokestatic 71, 3) := by decide +kernel
theorem dX7_isTold_12 : decode cX7_isTold 12 = .ok (.iconst (-1), 1) := by decide +kernel
theorem dX7_isTold_13 : decode cX7_isTold 13 = .ok (.if_icmp .ne 35, 3) := by decide +kernel
theorem dX7_isTold_16 : decode cX7_isTold 16 = .ok (.lload_n 1, 1) := by decide +kernel
theorem dX7_isTold_17 : decode cX7_isTold 17 = .ok (.aload_n 0, 1) := by decide +kernel
theorem dX7_isTold_18 : decode cX7_isTold 18 = .ok (.getfield 15, 3) := by decide +kernel
theorem dX7_isTold_21 : decode cX7_isTold 21 = .ok (.aload_n 0, 1) := by decide +kernel
theorem dX7_isTold_22 : decode cX7_isTold 22 = .ok (.getfield 48, 3) := by decide +kernel
theorem dX7_isTold_25 : decode cX7_isTold 25 = .ok (.invokestatic 71, 3) := by decide +kernel
theorem dX7_isTold_28 : decode cX7_isTold 28 = .ok (.iconst (-1), 1) := by decide +kernel
theorem dX7_isTold_29 : decode cX7_isTold 29 = .ok (.if_icmp .ne 19, 3) := by decide +kernel
theorem dX7_isTold_32 : decode cX7_isTold 32 = .ok (.lload_n 1, 1) := by decide +kernel
theorem dX7_isTold_33 : decode cX7_isTold 33 = .ok (.aload_n 0, 1) := by decide +kernel
theorem dX7_isTold_34 : decode cX7_isTold 34 = .ok (.getfield 18, 3) := by decide +kernel
theorem dX7_isTold_37 : decode cX7_isTold 37 = .ok (.aload_n 0, 1) := by decide +kernel
theorem dX7_isTold_38 : decode cX7_isTold 38 = .ok (.getfield 51, 3) := by decide +kernel
theorem dX7_isTold_41 : decode cX7_isTold 41 = .ok (.invokestatic 71, 3) := by decide +kernel
theorem dX7_isTold_44 : decode cX7_isTold 44 = .ok (.iconst (-1), 1) := by decide +kernel
theorem dX7_isTold_45 : decode cX7_isTold 45 = .ok (.if_icmp .eq 7, 3) := by decide +kernel
theorem dX7_isTold_48 : decode cX7_isTold 48 = .ok (.iconst 1, 1) := by decide +kernel
theorem dX7_isTold_49 : decode cX7_isTold 49 = .ok (.goto 4, 3) := by decide +kernel
theorem dX7_isTold_52 : decode cX7_isTold 52 = .ok (.iconst 0, 1) := by decide +kernel
theorem dX7_isTold_53 : decode cX7_isTold 53 = .ok (.ireturn, 1) := by decide +kernel
noncomputable def FX7_isTold (a0 : Nat) (p1 : Int64) : PP Bool := bd (gI a0 9) (fun x1 => bd (FX7_indexOf p1 (rf a0 0) x1 5) (fun x2 => bd (if x2 = (-1 : Int32) then bd (gI a0 10) (fun x3 => bd (FX7_indexOf p1 (rf a0 1) x3 4) (fun x4 => if x4 = (-1 : Int32) then bd (gI a0 11) (fun x5 => bd (FX7_indexOf p1 (rf a0 2) x5 6) (fun x6 => if x6 = (-1 : Int32) then pu (0 : Int32) else pu (1 : Int32))) else pu (1 : Int32))) else pu (1 : Int32) : PP (Int32)) (fun (v7 : Int32) => zb v7)))
set_option maxHeartbeats 4000000 in
set_option maxRecDepth 100000 in
theorem SX7_isTold {l : Launch} {K : KK} {n : Nat} {hn : 270 ≤ n} (a0 : Nat) (p1 : Int64) (h0 : ob a0 7) : CT l K n 1 mX7_isTold [.ref (K.2.1 + a0), .long p1] enZ (FX7_isTold a0 p1) := by
  refine CT.of2 (lv2 := [(0, .ref (K.2.1 + a0)), (1, .long p1)]) (by decide) rfl hn (Nat.le_of_ble_eq_true rfl) rfl (rp_id ?_)
  unfold FX7_isTold
  refine rp_lload_n 1 dX7_isTold_0 rfl ?_
  refine rp_aload_n 0 dX7_isTold_1 rfl ?_
  refine rp_getR fi_X7_9 h0 rfl dX7_isTold_2 ?_
  refine rp_aload_n 0 dX7_isTold_5 rfl ?_
  refine rp_getI fi_X7_44 h0 rfl dX7_isTold_6 (fun x1 => ?_)
  refine rp_callSi [.long p1, .ref (K.2.1 + (rf a0 0)), .int x1] (SX7_indexOf (hn := hn) p1 (rf a0 0) x1 5 (tX7_0 h0)) csX7_indexOf (mw (i := 605) (by decide +kernel)) (by omega) rfl rfl (Nat.le_of_ble_eq_true rfl) dX7_isTold_9 (fun x2 => ?_)
  refine rp_iconst (-1 : Int32) dX7_isTold_12 (by decide) ?_
  refine rp_as ?_
  refine rp_join 53 (fun (v7 : Int32) => []) (fun v7 => [.int v7]) (fun v7 => ?_) (fun hJ53 => ?_)
  · exact rp_zretb rfl dX7_isTold_53
  refine rp_icmp_ne 48 dX7_isTold_13 (by decide) ?_ ?_
  · refine rp_iconst (1 : Int32) dX7_isTold_48 (by decide) ?_
    refine rp_goto 53 dX7_isTold_49 (by decide) ?_
    exact rp_sub [] rfl (rp_pu (hJ53 (1 : Int32)))
  · refine rp_lload_n 1 dX7_isTold_16 rfl ?_
    refine rp_aload_n 0 dX7_isTold_17 rfl ?_
    refine rp_getR fi_X7_15 h0 rfl dX7_isTold_18 ?_
    refine rp_aload_n 0 dX7_isTold_21 rfl ?_
    refine rp_getI fi_X7_48 h0 rfl dX7_isTold_22 (fun x3 => ?_)
    refine rp_callSi [.long p1, .ref (K.2.1 + (rf a0 1)), .int x3] (SX7_indexOf (hn := hn) p1 (rf a0 1) x3 4 (tX7_1 h0)) csX7_indexOf (mw (i := 605) (by decide +kernel)) (by omega) rfl rfl (Nat.le_of_ble_eq_true rfl) dX7_isTold_25 (fun x4 => ?_)
    refine rp_iconst (-1 : Int32) dX7_isTold_28 (by decide) ?_
    refine rp_icmp_ne 48 dX7_isTold_29 (by decide) ?_ ?_
    · refine rp_iconst (1 : Int32) dX7_isTold_48 (by decide) ?_
      refine rp_goto 53 dX7_isTold_49 (by decide) ?_
      exact rp_sub [] rfl (rp_pu (hJ53 (1 : Int32)))
    · refine rp_lload_n 1 dX7_isTold_32 rfl ?_
      refine rp_aload_n 0 dX7_isTold_33 rfl ?_
      refine rp_getR fi_X7_18 h0 rfl dX7_isTold_34 ?_
      refine rp_aload_n 0 dX7_isTold_37 rfl ?_
      refine rp_getI fi_X7_51 h0 rfl dX7_isTold_38 (fun x5 => ?_)
      refine rp_callSi [.long p1, .ref (K.2.1 + (rf a0 2)), .int x5] (SX7_indexOf (hn := hn) p1 (rf a0 2) x5 6 (tX7_2 h0)) csX7_indexOf (mw (i := 605) (by decide +kernel)) (by omega) rfl rfl (Nat.le_of_ble_eq_true rfl) dX7_isTold_41 (fun x6 => ?_)
      refine rp_iconst (-1 : Int32) dX7_isTold_44 (by decide) ?_
      refine rp_icmp_eq 52 dX7_isTold_45 (by decide) ?_ ?_
      · refine rp_iconst (0 : Int32) dX7_isTold_52 (by decide) ?_
        exact rp_sub [] rfl (rp_pu (hJ53 (0 : Int32)))
      · refine rp_iconst (1 : Int32) dX7_isTold_48 (by decide) ?_
        refine rp_goto 53 dX7_isTold_49 (by decide) ?_
        exact rp_sub [] rfl (rp_pu (hJ53 (1 : Int32)))

theorem dX9_forget_0 : decode cX9_forget 0 = .ok (.iconst 0, 1) := by decide +kernel
theorem dX9_forget_1 : decode cX9_forget 1 = .ok (.istore_n 1, 1) := by decide +kernel
theorem dX9_forget_2 : decode cX9_forget 2 = .ok (.iload_n 1, 1) := by decide +kernel
theorem dX9_forget_3 : decode cX9_forget 3 = .ok (.iconst 4, 1) := by decide +kernel
theorem dX9_forget_4 : decode cX9_forget 4 = .ok (.if_icmp .ge 17, 3) := by decide +kernel
theorem dX9_forget_7 : decode cX9_forget 7 = .ok (.aload_n 0, 1) := by decide +kernel
theorem dX9_forget_8 : decode cX9_forget 8 = .ok (.getfield 11, 3) := by decide +kernel
theorem dX9_forget_11 : decode cX9_forget 11 = .ok (.iload_n 1, 1) := by decide +kernel
theorem dX9_forget_12 : decode cX9_forget 12 = .ok (.bipush (-2), 2) := by decide +kernel
theorem dX9_forget_14 : decode cX9_forget 14 = .ok (.iastore, 1) := by decide +kernel
theorem dX9_forget_15 : decode cX9_forget 15 = .ok (.iinc 1 1, 3) := by decide +kernel
theorem dX9_forget_18 : decode cX9_forget 18 = .ok (.goto (-16), 3) := by decide +kernel
theorem dX9_forget_21 : decode cX9_forget 21 = .ok (.return_, 1) := by decide +kernel
noncomputable def FX9_forget (a0 : Nat) : PP Unit := bd (it (fun (s1 : Int32) => (if (4 : Int32) ≤ s1 then pu (Sum.inr ()) else bd (uI (rf a0 0) 4 s1 (-2 : Int32)) (fun (_ : Unit) => lt (s1 + (1 : Int32)) (fun y2 => pu (Sum.inl y2))) : PP ((Int32) ⊕ (Unit)))) FU (0 : Int32)) (fun (v3 : Unit) => pu ())
set_option maxHeartbeats 4000000 in
set_option maxRecDepth 100000 in
theorem SX9_forget {l : Launch} {K : KK} {n : Nat} {hn : 270 ≤ n} (a0 : Nat) (h0 : ob a0 9) : CT l K n 0 mX9_forget [.ref (K.2.1 + a0)] enU (FX9_forget a0) := by
  refine CT.of2 (lv2 := [(0, .ref (K.2.1 + a0))]) (by decide) rfl hn (Nat.le_of_ble_eq_true rfl) rfl (rp_id ?_)
  unfold FX9_forget
  refine rp_iconst (0 : Int32) dX9_forget_0 (by decide) ?_
  refine rp_istore_n [(1, .int (0 : Int32)), (0, .ref (K.2.1 + a0))] dX9_forget_1 (by decide) rfl ?_
  refine rp_as ?_
  refine rp_join 21 (fun v3 => []) (fun _ => []) (fun v3 => ?_) (fun hX2_0 => ?_)
  · exact rp_pu (rp_vret rfl dX9_forget_21)
  refine rp_sub [1, 0] rfl (rp_it (fun (s1 : Int32) => [(0, .ref (K.2.1 + a0)), (1, .int s1)]) (fun N2 ih2 s1 => ?_) FU (0 : Int32))
  refine rp_iload_n 1 dX9_forget_2 rfl ?_
  refine rp_iconst (4 : Int32) dX9_forget_3 (by decide) ?_
  refine rp_icmp_ge 21 dX9_forget_4 (by decide) ?_ ?_
  · exact rp_sub [] rfl (rp_puR (hX2_0 ()))
  · refine rp_aload_n 0 dX9_forget_7 rfl ?_
    refine rp_getR fi_X9_11 h0 rfl dX9_forget_8 ?_
    refine rp_iload_n 1 dX9_forget_11 rfl ?_
    refine rp_bipush (-2 : Int32) dX9_forget_12 (by decide) ?_
    refine rp_iast (tX9_0 h0) dX9_forget_14 ?_
    refine rp_iinc (fun y2 => [(1, .int y2), (0, .ref (K.2.1 + a0))]) 1 dX9_forget_15 rfl (by rfl) (by decide) (fun y2 => rfl) (fun y2 => ?_)
    refine rp_goto 2 dX9_forget_18 (by decide) ?_
    exact rp_sub [1, 0] rfl (ih2 y2)

theorem dX9_copyFrom_0 : decode cX9_copyFrom 0 = .ok (.aload_n 1, 1) := by decide +kernel
theorem dX9_copyFrom_1 : decode cX9_copyFrom 1 = .ok (.iconst 0, 1) := by decide +kernel
theorem dX9_copyFrom_2 : decode cX9_copyFrom 2 = .ok (.aload_n 0, 1) := by decide +kernel
theorem dX9_copyFrom_3 : decode cX9_copyFrom 3 = .ok (.getfield 11, 3) := by decide +kernel
theorem dX9_copyFrom_6 : decode cX9_copyFrom 6 = .ok (.iconst 0, 1) := by decide +kernel
theorem dX9_copyFrom_7 : decode cX9_copyFrom 7 = .ok (.iconst 4, 1) := by decide +kernel
theorem dX9_copyFrom_8 : decode cX9_copyFrom 8 = .ok (.invokestatic 25, 3) := by decide +kernel
theorem dX9_copyFrom_11 : decode cX9_copyFrom 11 = .ok (.return_, 1) := by decide +kernel
noncomputable def FX9_copyFrom (a0 : Nat) (p1 : Nat) : PP Unit := bd (cpI p1 (rf a0 0) 4) (fun (_ : Unit) => pu ())
set_option maxHeartbeats 4000000 in
set_option maxRecDepth 100000 in
theorem SX9_copyFrom {l : Launch} {K : KK} {n : Nat} {hn : 270 ≤ n} (a0 : Nat) (p1 : Nat) (h0 : ob a0 9) (h_p1 : ar p1 0 4) : CT l K n 1 mX9_copyFrom [.ref (K.2.1 + a0), .ref (K.2.1 + p1)] enU (FX9_copyFrom a0 p1) := by
  refine CT.of2 (lv2 := [(0, .ref (K.2.1 + a0)), (1, .ref (K.2.1 + p1))]) (by decide) rfl hn (Nat.le_of_ble_eq_true rfl) rfl (rp_id ?_)
  unfold FX9_copyFrom
  refine rp_aload_n 1 dX9_copyFrom_0 rfl ?_
  refine rp_iconst (0 : Int32) dX9_copyFrom_1 (by decide) ?_
  refine rp_aload_n 0 dX9_copyFrom_2 rfl ?_
  refine rp_getR fi_X9_11 h0 rfl dX9_copyFrom_3 ?_
  refine rp_iconst (0 : Int32) dX9_copyFrom_6 (by decide) ?_
  refine rp_iconst (4 : Int32) dX9_copyFrom_7 (by decide) ?_
  refine rp_cpI (n0 := 4) (n1 := 4) 4 h_p1 (tX9_0 h0) (by decide) (by decide) (by decide) (mw (i := 953) (by decide +kernel)) (by omega) (Nat.le_of_ble_eq_true rfl) dX9_copyFrom_8 ?_
  exact rp_pu (rp_vret rfl dX9_copyFrom_11)

theorem dX1_goBack_0 : decode cX1_goBack 0 = .ok (.aload_n 1, 1) := by decide +kernel
theorem dX1_goBack_1 : decode cX1_goBack 1 = .ok (.aload_n 0, 1) := by decide +kernel
theorem dX1_goBack_2 : decode cX1_goBack 2 = .ok (.getfield 20, 3) := by decide +kernel
theorem dX1_goBack_5 : decode cX1_goBack 5 = .ok (.invokevirtual 33, 3) := by decide +kernel
theorem dX1_goBack_8 : decode cX1_goBack 8 = .ok (.aload_n 2, 1) := by decide +kernel
theorem dX1_goBack_9 : decode cX1_goBack 9 = .ok (.aload_n 0, 1) := by decide +kernel
theorem dX1_goBack_10 : decode cX1_goBack 10 = .ok (.getfield 9, 3) := by decide +kernel
theorem dX1_goBack_13 : decode cX1_goBack 13 = .ok (.invokevirtual 52, 3) := by decide +kernel
theorem dX1_goBack_16 : decode cX1_goBack 16 = .ok (.aload_n 3, 1) := by decide +kernel
theorem dX1_goBack_17 : decode cX1_goBack 17 = .ok (.aload_n 0, 1) := by decide +kernel
theorem dX1_goBack_18 : decode cX1_goBack 18 = .ok (.getfield 29, 3) := by decide +kernel
theorem dX1_goBack_21 : decode cX1_goBack 21 = .ok (.invokevirtual 45, 3) := by decide +kernel
theorem dX1_goBack_24 : decode cX1_goBack 24 = .ok (.return_, 1) := by decide +kernel
noncomputable def FX1_goBack (a0 : Nat) (p1 : Nat) (p2 : Nat) (p3 : Nat) : PP Unit := bd (FX4_copyFrom p1 (rf a0 0)) (fun (_ : Unit) => bd (FX9_copyFrom p2 (rf a0 1)) (fun (_ : Unit) => bd (FX6_copyFrom p3 (rf a0 2)) (fun (_ : Unit) => pu ())))
set_option maxHeartbeats 4000000 in
set_option maxRecDepth 100000 in
theorem SX1_goBack {l : Launch} {K : KK} {n : Nat} {hn : 270 ≤ n} (a0 : Nat) (p1 : Nat) (p2 : Nat) (p3 : Nat) (h0 : ob a0 1) (h_p1 : ob p1 4) (h_p2 : ob p2 9) (h_p3 : ob p3 6) : CT l K n 2 mX1_goBack [.ref (K.2.1 + a0), .ref (K.2.1 + p1), .ref (K.2.1 + p2), .ref (K.2.1 + p3)] enU (FX1_goBack a0 p1 p2 p3) := by
  refine CT.of2 (lv2 := [(0, .ref (K.2.1 + a0)), (1, .ref (K.2.1 + p1)), (2, .ref (K.2.1 + p2)), (3, .ref (K.2.1 + p3))]) (by decide) rfl hn (Nat.le_of_ble_eq_true rfl) rfl (rp_id ?_)
  unfold FX1_goBack
  refine rp_aload_n 1 dX1_goBack_0 rfl ?_
  refine rp_aload_n 0 dX1_goBack_1 rfl ?_
  refine rp_getR fi_X1_20 h0 rfl dX1_goBack_2 ?_
  refine rp_callVv [.ref (K.2.1 + (rf a0 0))] (SX4_copyFrom (hn := hn) p1 (rf a0 0) h_p1 (tX1_0 h0)) cvX4_copyFrom (mw (i := 938) (by decide +kernel)) (by omega) h_p1 (by decide) rfl rfl rfl (Nat.le_of_ble_eq_true rfl) dX1_goBack_5 (fun x1 => ?_)
  refine rp_aload_n 2 dX1_goBack_8 rfl ?_
  refine rp_aload_n 0 dX1_goBack_9 rfl ?_
  refine rp_getR fi_X1_9 h0 rfl dX1_goBack_10 ?_
  refine rp_callVv [.ref (K.2.1 + (rf a0 1))] (SX9_copyFrom (hn := hn) p2 (rf a0 1) h_p2 (tX1_1 h0)) cvX9_copyFrom (mw (i := 949) (by decide +kernel)) (by omega) h_p2 (by decide) rfl rfl rfl (Nat.le_of_ble_eq_true rfl) dX1_goBack_13 (fun x2 => ?_)
  refine rp_aload_n 3 dX1_goBack_16 rfl ?_
  refine rp_aload_n 0 dX1_goBack_17 rfl ?_
  refine rp_getR fi_X1_29 h0 rfl dX1_goBack_18 ?_
  refine rp_callVv [.ref (K.2.1 + (rf a0 2))] (SX6_copyFrom (hn := hn) p3 (rf a0 2) h_p3 (tX1_2 h0)) cvX6_copyFrom (mw (i := 940) (by decide +kernel)) (by omega) h_p3 (by decide) rfl rfl rfl (Nat.le_of_ble_eq_true rfl) dX1_goBack_21 (fun x3 => ?_)
  exact rp_pu (rp_vret rfl dX1_goBack_24)

theorem dX9_wantedPlaces_0 : decode cX9_wantedPlaces 0 = .ok (.iconst 0, 1) := by decide +kernel
theorem dX9_wantedPlaces_1 : decode cX9_wantedPlaces 1 = .ok (.istore_n 1, 1) := by decide +kernel
theorem dX9_wantedPlaces_2 : decode cX9_wantedPlaces 2 = .ok (.iconst 0, 1) := by decide +kernel
theorem dX9_wantedPlaces_3 : decode cX9_wantedPlaces 3 = .ok (.istore_n 2, 1) := by decide +kernel
theorem dX9_wantedPlaces_4 : decode cX9_wantedPlaces 4 = .ok (.iload_n 2, 1) := by decide +kernel
theorem dX9_wantedPlaces_5 : decode cX9_wantedPlaces 5 = .ok (.iconst 4, 1) := by decide +kernel
theorem dX9_wantedPlaces_6 : decode cX9_wantedPlaces 6 = .ok (.if_icmp .ge 30, 3) := by decide +kernel
theorem dX9_wantedPlaces_9 : decode cX9_wantedPlaces 9 = .ok (.iload_n 1, 1) := by decide +kernel
theorem dX9_wantedPlaces_10 : decode cX9_wantedPlaces 10 = .ok (.aload_n 0, 1) := by decide +kernel
theorem dX9_wantedPlaces_11 : decode cX9_wantedPlaces 11 = .ok (.getfield 11, 3) := by decide +kernel
theorem dX9_wantedPlaces_14 : decode cX9_wantedPlaces 14 = .ok (.iload_n 2, 1) := by decide +kernel
theorem dX9_wantedPlaces_15 : decode cX9_wantedPlaces 15 = .ok (.iaload, 1) := by decide +kernel
theorem dX9_wantedPlaces_16 : decode cX9_wantedPlaces 16 = .ok (.bipush (-2), 2) := by decide +kernel
theorem dX9_wantedPlaces_18 : decode cX9_wantedPlaces 18 = .ok (.if_icmp .eq 9, 3) := by decide +kernel
theorem dX9_wantedPlaces_21 : decode cX9_wantedPlaces 21 = .ok (.iconst 1, 1) := by decide +kernel
theorem dX9_wantedPlaces_22 : decode cX9_wantedPlaces 22 = .ok (.iload_n 2, 1) := by decide +kernel
theorem dX9_wantedPlaces_23 : decode cX9_wantedPlaces 23 = .ok (.ishl, 1) := by decide +kernel
theorem dX9_wantedPlaces_24 : decode cX9_wantedPlaces 24 = .ok (.goto 4, 3) := by decide +kernel
theorem dX9_wantedPlaces_27 : decode cX9_wantedPlaces 27 = .ok (.iconst 0, 1) := by decide +kernel
theorem dX9_wantedPlaces_28 : decode cX9_wantedPlaces 28 = .ok (.ior, 1) := by decide +kernel
theorem dX9_wantedPlaces_29 : decode cX9_wantedPlaces 29 = .ok (.istore_n 1, 1) := by decide +kernel
theorem dX9_wantedPlaces_30 : decode cX9_wantedPlaces 30 = .ok (.iinc 2 1, 3) := by decide +kernel
theorem dX9_wantedPlaces_33 : decode cX9_wantedPlaces 33 = .ok (.goto (-29), 3) := by decide +kernel
theorem dX9_wantedPlaces_36 : decode cX9_wantedPlaces 36 = .ok (.iload_n 1, 1) := by decide +kernel
theorem dX9_wantedPlaces_37 : decode cX9_wantedPlaces 37 = .ok (.ireturn, 1) := by decide +kernel
noncomputable def FX9_wantedPlaces (a0 : Nat) : PP Int32 := bd (it (fun (s1 : Int32 × Int32) => (if (4 : Int32) ≤ s1.2 then pu (Sum.inr s1.1) else bd (aI (rf a0 0) 4 s1.2) (fun x2 => bd (if x2 = (-2 : Int32) then pu (0 : Int32) else pu ((1 : Int32) <<< (s1.2 &&& 31)) : PP (Int32)) (fun (v3 : Int32) => lt (s1.1 ||| v3) (fun y4 => lt (s1.2 + (1 : Int32)) (fun y5 => pu (Sum.inl (y4, y5)))))) : PP ((Int32 × Int32) ⊕ (Int32)))) FU ((0 : Int32), (0 : Int32))) (fun (v6 : Int32) => pu v6)
set_option maxHeartbeats 4000000 in
set_option maxRecDepth 100000 in
theorem SX9_wantedPlaces {l : Launch} {K : KK} {n : Nat} {hn : 270 ≤ n} (a0 : Nat) (h0 : ob a0 9) : CT l K n 0 mX9_wantedPlaces [.ref (K.2.1 + a0)] enI (FX9_wantedPlaces a0) := by
  refine CT.of2 (lv2 := [(0, .ref (K.2.1 + a0))]) (by decide) rfl hn (Nat.le_of_ble_eq_true rfl) rfl (rp_id ?_)
  unfold FX9_wantedPlaces
  refine rp_iconst (0 : Int32) dX9_wantedPlaces_0 (by decide) ?_
  refine rp_istore_n [(1, .int (0 : Int32)), (0, .ref (K.2.1 + a0))] dX9_wantedPlaces_1 (by decide) rfl ?_
  refine rp_iconst (0 : Int32) dX9_wantedPlaces_2 (by decide) ?_
  refine rp_istore_n [(2, .int (0 : Int32)), (1, .int (0 : Int32)), (0, .ref (K.2.1 + a0))] dX9_wantedPlaces_3 (by decide) rfl ?_
  refine rp_as ?_
  refine rp_join 36 (fun v6 => [(1, .int v6)]) (fun _ => []) (fun v6 => ?_) (fun hX4_0 => ?_)
  · refine rp_iload_n 0 dX9_wantedPlaces_36 rfl ?_
    exact rp_pu (rp_iret rfl dX9_wantedPlaces_37)
  refine rp_sub [2, 1, 0] rfl (rp_it (fun (s1 : Int32 × Int32) => [(0, .ref (K.2.1 + a0)), (1, .int s1.1), (2, .int s1.2)]) (fun N4 ih4 s1 => ?_) FU ((0 : Int32), (0 : Int32)))
  refine rp_iload_n 2 dX9_wantedPlaces_4 rfl ?_
  refine rp_iconst (4 : Int32) dX9_wantedPlaces_5 (by decide) ?_
  refine rp_icmp_ge 36 dX9_wantedPlaces_6 (by decide) ?_ ?_
  · exact rp_sub [1] rfl (rp_puR (hX4_0 s1.1))
  · refine rp_iload_n 1 dX9_wantedPlaces_9 rfl ?_
    refine rp_aload_n 0 dX9_wantedPlaces_10 rfl ?_
    refine rp_getR fi_X9_11 h0 rfl dX9_wantedPlaces_11 ?_
    refine rp_iload_n 2 dX9_wantedPlaces_14 rfl ?_
    refine rp_iald (tX9_0 h0) dX9_wantedPlaces_15 (fun x2 => ?_)
    refine rp_bipush (-2 : Int32) dX9_wantedPlaces_16 (by decide) ?_
    refine rp_as ?_
    refine rp_join 28 (fun (v3 : Int32) => [(0, .ref (K.2.1 + a0)), (2, .int s1.2)]) (fun v3 => [.int v3, .int s1.1]) (fun v3 => ?_) (fun hJ28 => ?_)
    · refine rp_ior dX9_wantedPlaces_28 ?_
      refine rp_lti (fun y4 => ?_)
      refine rp_istore_n [(1, .int y4), (0, .ref (K.2.1 + a0)), (2, .int s1.2)] dX9_wantedPlaces_29 (by decide) rfl ?_
      refine rp_iinc (fun y5 => [(2, .int y5), (1, .int y4), (0, .ref (K.2.1 + a0))]) 2 dX9_wantedPlaces_30 rfl (by rfl) (by decide) (fun y5 => rfl) (fun y5 => ?_)
      refine rp_goto 4 dX9_wantedPlaces_33 (by decide) ?_
      exact rp_sub [2, 1, 0] rfl (ih4 (y4, y5))
    refine rp_icmp_eq 27 dX9_wantedPlaces_18 (by decide) ?_ ?_
    · refine rp_iconst (0 : Int32) dX9_wantedPlaces_27 (by decide) ?_
      exact rp_sub [0, 2] rfl (rp_pu (hJ28 (0 : Int32)))
    · refine rp_iconst (1 : Int32) dX9_wantedPlaces_21 (by decide) ?_
      refine rp_iload_n 2 dX9_wantedPlaces_22 rfl ?_
      refine rp_ishl dX9_wantedPlaces_23 ?_
      refine rp_goto 28 dX9_wantedPlaces_24 (by decide) ?_
      exact rp_sub [0, 2] rfl (rp_pu (hJ28 ((1 : Int32) <<< (s1.2 &&& 31))))

theorem dX9_findUsefulLines_0 : decode cX9_findUsefulLines 0 = .ok (.iconst 0, 1) := by decide +kernel
theorem dX9_findUsefulLines_1 : decode cX9_findUsefulLines 1 = .ok (.istore_n 1, 1) := by decide +kernel
theorem dX9_findUsefulLines_2 : decode cX9_findUsefulLines 2 = .ok (.iload_n 1, 1) := by decide +kernel
theorem dX9_findUsefulLines_3 : decode cX9_findUsefulLines 3 = .ok (.iconst 4, 1) := by decide +kernel
theorem dX9_findUsefulLines_4 : decode cX9_findUsefulLines 4 = .ok (.if_icmp .ge 16, 3) := by decide +kernel
theorem dX9_findUsefulLines_7 : decode cX9_findUsefulLines 7 = .ok (.aload_n 0, 1) := by decide +kernel
theorem dX9_findUsefulLines_8 : decode cX9_findUsefulLines 8 = .ok (.getfield 18, 3) := by decide +kernel
theorem dX9_findUsefulLines_11 : decode cX9_findUsefulLines 11 = .ok (.iload_n 1, 1) := by decide +kernel
theorem dX9_findUsefulLines_12 : decode cX9_findUsefulLines 12 = .ok (.iconst 0, 1) := by decide +kernel
theorem dX9_findUsefulLines_13 : decode cX9_findUsefulLines 13 = .ok (.iastore, 1) := by decide +kernel
theorem dX9_findUsefulLines_14 : decode cX9_findUsefulLines 14 = .ok (.iinc 1 1, 3) := by decide +kernel
theorem dX9_findUsefulLines_17 : decode cX9_findUsefulLines 17 = .ok (.goto (-15), 3) := by decide +kernel
theorem dX9_findUsefulLines_20 : decode cX9_findUsefulLines 20 = .ok (.iconst 0, 1) := by decide +kernel
theorem dX9_findUsefulLines_21 : decode cX9_findUsefulLines 21 = .ok (.istore_n 1, 1) := by decide +kernel
theorem dX9_findUsefulLines_22 : decode cX9_findUsefulLines 22 = .ok (.iload_n 1, 1) := by decide +kernel
theorem dX9_findUsefulLines_23 : decode cX9_findUsefulLines 23 = .ok (.aload_n 0, 1) := by decide +kernel
theorem dX9_findUsefulLines_24 : decode cX9_findUsefulLines 24 = .ok (.getfield 21, 3) := by decide +kernel
theorem dX9_findUsefulLines_27 : decode cX9_findUsefulLines 27 = .ok (.getfield 44, 3) := by decide +kernel
theorem dX9_findUsefulLines_30 : decode cX9_findUsefulLines 30 = .ok (.getfield 48, 3) := by decide +kernel
theorem dX9_findUsefulLines_33 : decode cX9_findUsefulLines 33 = .ok (.if_icmp .ge 44, 3) := by decide +kernel
theorem dX9_findUsefulLines_36 : decode cX9_findUsefulLines 36 = .ok (.aload_n 0, 1) := by decide +kernel
theorem dX9_findUsefulLines_37 : decode cX9_findUsefulLines 37 = .ok (.getfield 11, 3) := by decide +kernel
theorem dX9_findUsefulLines_40 : decode cX9_findUsefulLines 40 = .ok (.iload_n 1, 1) := by decide +kernel
theorem dX9_findUsefulLines_41 : decode cX9_findUsefulLines 41 = .ok (.iaload, 1) := by decide +kernel
theorem dX9_findUsefulLines_42 : decode cX9_findUsefulLines 42 = .ok (.ifCond .lt 29, 3) := by decide +kernel
theorem dX9_findUsefulLines_45 : decode cX9_findUsefulLines 45 = .ok (.aload_n 0, 1) := by decide +kernel
theorem dX9_findUsefulLines_46 : decode cX9_findUsefulLines 46 = .ok (.getfield 18, 3) := by decide +kernel
theorem dX9_findUsefulLines_49 : decode cX9_findUsefulLines 49 = .ok (.aload_n 0, 1) := by decide +kernel
theorem dX9_findUsefulLines_50 : decode cX9_findUsefulLines 50 = .ok (.getfield 11, 3) := by decide +kernel
theorem dX9_findUsefulLines_53 : decode cX9_findUsefulLines 53 = .ok (.iload_n 1, 1) := by decide +kernel
theorem dX9_findUsefulLines_54 : decode cX9_findUsefulLines 54 = .ok (.iaload, 1) := by decide +kernel
theorem dX9_findUsefulLines_55 : decode cX9_findUsefulLines 55 = .ok (.dup2, 1) := by decide +kernel
theorem dX9_findUsefulLines_56 : decode cX9_findUsefulLines 56 = .ok (.iaload, 1) := by decide +kernel
theorem dX9_findUsefulLines_57 : decode cX9_findUsefulLines 57 = .ok (.aload_n 0, 1) := by decide +kernel
theorem dX9_findUsefulLines_58 : decode cX9_findUsefulLines 58 = .ok (.getfield 21, 3) := by decide +kernel
theorem dX9_findUsefulLines_61 : decode cX9_findUsefulLines 61 = .ok (.getfield 44, 3) := by decide +kernel
theorem dX9_findUsefulLines_64 : decode cX9_findUsefulLines 64 = .ok (.getfield 54, 3) := by decide +kernel
theorem dX9_findUsefulLines_67 : decode cX9_findUsefulLines 67 = .ok (.iload_n 1, 1) := by decide +kernel
theorem dX9_findUsefulLines_68 : decode cX9_findUsefulLines 68 = .ok (.iaload, 1) := by decide +kernel
theorem dX9_findUsefulLines_69 : decode cX9_findUsefulLines 69 = .ok (.ior, 1) := by decide +kernel
theorem dX9_findUsefulLines_70 : decode cX9_findUsefulLines 70 = .ok (.iastore, 1) := by decide +kernel
theorem dX9_findUsefulLines_71 : decode cX9_findUsefulLines 71 = .ok (.iinc 1 1, 3) := by decide +kernel
theorem dX9_findUsefulLines_74 : decode cX9_findUsefulLines 74 = .ok (.goto (-52), 3) := by decide +kernel
theorem dX9_findUsefulLines_77 : decode cX9_findUsefulLines 77 = .ok (.return_, 1) := by decide +kernel
noncomputable def FX9_findUsefulLines (a0 : Nat) : PP Unit := bd (it (fun (s1 : Int32) => (if (4 : Int32) ≤ s1 then pu (Sum.inr ()) else bd (uI (rf a0 3) 4 s1 (0 : Int32)) (fun (_ : Unit) => lt (s1 + (1 : Int32)) (fun y2 => pu (Sum.inl y2))) : PP ((Int32) ⊕ (Unit)))) FU (0 : Int32)) (fun (v3 : Unit) => bd (it (fun (s4 : Int32) => (bd (gI (rf (rf a0 2) 0) 10) (fun x5 => if x5 ≤ s4 then pu (Sum.inr ()) else bd (aI (rf a0 0) 4 s4) (fun x6 => bd (if x6 < 0 then pu () else bd (aI (rf a0 0) 4 s4) (fun x7 => bd (aI (rf a0 3) 4 x7) (fun x8 => bd (aI (rf (rf (rf a0 2) 0) 5) 4 s4) (fun x9 => bd (uI (rf a0 3) 4 x7 (x8 ||| x9)) (fun (_ : Unit) => pu ())))) : PP (Unit)) (fun (v10 : Unit) => lt (s4 + (1 : Int32)) (fun y11 => pu (Sum.inl y11))))) : PP ((Int32) ⊕ (Unit)))) FU (0 : Int32)) (fun (v12 : Unit) => pu ()))
set_option maxHeartbeats 4000000 in
set_option maxRecDepth 100000 in
theorem SX9_findUsefulLines {l : Launch} {K : KK} {n : Nat} {hn : 270 ≤ n} (a0 : Nat) (h0 : ob a0 9) : CT l K n 0 mX9_findUsefulLines [.ref (K.2.1 + a0)] enU (FX9_findUsefulLines a0) := by
  refine CT.of2 (lv2 := [(0, .ref (K.2.1 + a0))]) (by decide) rfl hn (Nat.le_of_ble_eq_true rfl) rfl (rp_id ?_)
  unfold FX9_findUsefulLines
  refine rp_iconst (0 : Int32) dX9_findUsefulLines_0 (by decide) ?_
  refine rp_istore_n [(1, .int (0 : Int32)), (0, .ref (K.2.1 + a0))] dX9_findUsefulLines_1 (by decide) rfl ?_
  refine rp_as ?_
  refine rp_join 20 (fun v3 => [(0, .ref (K.2.1 + a0))]) (fun _ => []) (fun v3 => ?_) (fun hX2_0 => ?_)
  · refine rp_iconst (0 : Int32) dX9_findUsefulLines_20 (by decide) ?_
    refine rp_istore_n [(1, .int (0 : Int32)), (0, .ref (K.2.1 + a0))] dX9_findUsefulLines_21 (by decide) rfl ?_
    refine rp_as ?_
    refine rp_join 77 (fun v12 => []) (fun _ => []) (fun v12 => ?_) (fun hX22_0 => ?_)
    · exact rp_pu (rp_vret rfl dX9_findUsefulLines_77)
    refine rp_sub [1, 0] rfl (rp_it (fun (s4 : Int32) => [(0, .ref (K.2.1 + a0)), (1, .int s4)]) (fun N22 ih22 s4 => ?_) FU (0 : Int32))
    refine rp_iload_n 1 dX9_findUsefulLines_22 rfl ?_
    refine rp_aload_n 0 dX9_findUsefulLines_23 rfl ?_
    refine rp_getR fi_X9_21 h0 rfl dX9_findUsefulLines_24 ?_
    refine rp_getR fi_X9_44 (tX9_2 h0) rfl dX9_findUsefulLines_27 ?_
    refine rp_getI fi_X9_48 (tX4_0 (tX9_2 h0)) rfl dX9_findUsefulLines_30 (fun x5 => ?_)
    refine rp_icmp_ge 77 dX9_findUsefulLines_33 (by decide) ?_ ?_
    · exact rp_sub [] rfl (rp_puR (hX22_0 ()))
    · refine rp_aload_n 0 dX9_findUsefulLines_36 rfl ?_
      refine rp_getR fi_X9_11 h0 rfl dX9_findUsefulLines_37 ?_
      refine rp_iload_n 1 dX9_findUsefulLines_40 rfl ?_
      refine rp_iald (tX9_0 h0) dX9_findUsefulLines_41 (fun x6 => ?_)
      refine rp_as ?_
      refine rp_join 71 (fun (v10 : Unit) => [(0, .ref (K.2.1 + a0)), (1, .int s4)]) (fun v10 => []) (fun v10 => ?_) (fun hJ71 => ?_)
      · refine rp_iinc (fun y11 => [(1, .int y11), (0, .ref (K.2.1 + a0))]) 1 dX9_findUsefulLines_71 rfl (by rfl) (by decide) (fun y11 => rfl) (fun y11 => ?_)
        refine rp_goto 22 dX9_findUsefulLines_74 (by decide) ?_
        exact rp_sub [1, 0] rfl (ih22 y11)
      refine rp_if_lt 71 dX9_findUsefulLines_42 (by decide) ?_ ?_
      · exact rp_sub [0, 1] rfl (rp_pu (hJ71 ()))
      · refine rp_aload_n 0 dX9_findUsefulLines_45 rfl ?_
        refine rp_getR fi_X9_18 h0 rfl dX9_findUsefulLines_46 ?_
        refine rp_aload_n 0 dX9_findUsefulLines_49 rfl ?_
        refine rp_getR fi_X9_11 h0 rfl dX9_findUsefulLines_50 ?_
        refine rp_iload_n 1 dX9_findUsefulLines_53 rfl ?_
        refine rp_iald (tX9_0 h0) dX9_findUsefulLines_54 (fun x7 => ?_)
        refine rp_dup2 dX9_findUsefulLines_55 rfl rfl ?_
        refine rp_iald (tX9_3 h0) dX9_findUsefulLines_56 (fun x8 => ?_)
        refine rp_aload_n 0 dX9_findUsefulLines_57 rfl ?_
        refine rp_getR fi_X9_21 h0 rfl dX9_findUsefulLines_58 ?_
        refine rp_getR fi_X9_44 (tX9_2 h0) rfl dX9_findUsefulLines_61 ?_
        refine rp_getR fi_X9_54 (tX4_0 (tX9_2 h0)) rfl dX9_findUsefulLines_64 ?_
        refine rp_iload_n 1 dX9_findUsefulLines_67 rfl ?_
        refine rp_iald (tX7_5 (tX4_0 (tX9_2 h0))) dX9_findUsefulLines_68 (fun x9 => ?_)
        refine rp_ior dX9_findUsefulLines_69 ?_
        refine rp_iast (tX9_3 h0) dX9_findUsefulLines_70 ?_
        exact rp_sub [0, 1] rfl (rp_pu (hJ71 ()))
  refine rp_sub [1, 0] rfl (rp_it (fun (s1 : Int32) => [(0, .ref (K.2.1 + a0)), (1, .int s1)]) (fun N2 ih2 s1 => ?_) FU (0 : Int32))
  refine rp_iload_n 1 dX9_findUsefulLines_2 rfl ?_
  refine rp_iconst (4 : Int32) dX9_findUsefulLines_3 (by decide) ?_
  refine rp_icmp_ge 20 dX9_findUsefulLines_4 (by decide) ?_ ?_
  · exact rp_sub [0] rfl (rp_puR (hX2_0 ()))
  · refine rp_aload_n 0 dX9_findUsefulLines_7 rfl ?_
    refine rp_getR fi_X9_18 h0 rfl dX9_findUsefulLines_8 ?_
    refine rp_iload_n 1 dX9_findUsefulLines_11 rfl ?_
    refine rp_iconst (0 : Int32) dX9_findUsefulLines_12 (by decide) ?_
    refine rp_iast (tX9_3 h0) dX9_findUsefulLines_13 ?_
    refine rp_iinc (fun y2 => [(1, .int y2), (0, .ref (K.2.1 + a0))]) 1 dX9_findUsefulLines_14 rfl (by rfl) (by decide) (fun y2 => rfl) (fun y2 => ?_)
    refine rp_goto 2 dX9_findUsefulLines_17 (by decide) ?_
    exact rp_sub [1, 0] rfl (ih2 y2)

theorem dX9_firstLine_0 : decode cX9_firstLine 0 = .ok (.aload_n 0, 1) := by decide +kernel
theorem dX9_firstLine_1 : decode cX9_firstLine 1 = .ok (.getfield 21, 3) := by decide +kernel
theorem dX9_firstLine_4 : decode cX9_firstLine 4 = .ok (.iload_n 1, 1) := by decide +kernel
theorem dX9_firstLine_5 : decode cX9_firstLine 5 = .ok (.invokevirtual 87, 3) := by decide +kernel
theorem dX9_firstLine_8 : decode cX9_firstLine 8 = .ok (.ifCond .eq 15, 3) := by decide +kernel
theorem dX9_firstLine_11 : decode cX9_firstLine 11 = .ok (.aload_n 0, 1) := by decide +kernel
theorem dX9_firstLine_12 : decode cX9_firstLine 12 = .ok (.getfield 21, 3) := by decide +kernel
theorem dX9_firstLine_15 : decode cX9_firstLine 15 = .ok (.getfield 91, 3) := by decide +kernel
theorem dX9_firstLine_18 : decode cX9_firstLine 18 = .ok (.iload_n 1, 1) := by decide +kernel
theorem dX9_firstLine_19 : decode cX9_firstLine 19 = .ok (.iaload, 1) := by decide +kernel
theorem dX9_firstLine_20 : decode cX9_firstLine 20 = .ok (.ifCond .ne 5, 3) := by decide +kernel
theorem dX9_firstLine_23 : decode cX9_firstLine 23 = .ok (.iconst 5, 1) := by decide +kernel
theorem dX9_firstLine_24 : decode cX9_firstLine 24 = .ok (.ireturn, 1) := by decide +kernel
theorem dX9_firstLine_25 : decode cX9_firstLine 25 = .ok (.iload_n 1, 1) := by decide +kernel
theorem dX9_firstLine_26 : decode cX9_firstLine 26 = .ok (.iconst 1, 1) := by decide +kernel
theorem dX9_firstLine_27 : decode cX9_firstLine 27 = .ok (.isub, 1) := by decide +kernel
theorem dX9_firstLine_28 : decode cX9_firstLine 28 = .ok (.istore_n 2, 1) := by decide +kernel
theorem dX9_firstLine_29 : decode cX9_firstLine 29 = .ok (.iload_n 2, 1) := by decide +kernel
theorem dX9_firstLine_30 : decode cX9_firstLine 30 = .ok (.ifCond .lt 78, 3) := by decide +kernel
theorem dX9_firstLine_33 : decode cX9_firstLine 33 = .ok (.aload_n 0, 1) := by decide +kernel
theorem dX9_firstLine_34 : decode cX9_firstLine 34 = .ok (.getfield 21, 3) := by decide +kernel
theorem dX9_firstLine_37 : decode cX9_firstLine 37 = .ok (.getfield 44, 3) := by decide +kernel
theorem dX9_firstLine_40 : decode cX9_firstLine 40 = .ok (.getfield 67, 3) := by decide +kernel
theorem dX9_firstLine_43 : decode cX9_firstLine 43 = .ok (.iload_n 2, 1) := by decide +kernel
theorem dX9_firstLine_44 : decode cX9_firstLine 44 = .ok (.iaload, 1) := by decide +kernel
theorem dX9_firstLine_45 : decode cX9_firstLine 45 = .ok (.aload_n 0, 1) := by decide +kernel
theorem dX9_firstLine_46 : decode cX9_firstLine 46 = .ok (.getfield 21, 3) := by decide +kernel
theorem dX9_firstLine_49 : decode cX9_firstLine 49 = .ok (.getfield 44, 3) := by decide +kernel
theorem dX9_firstLine_52 : decode cX9_firstLine 52 = .ok (.getfield 67, 3) := by decide +kernel
theorem dX9_firstLine_55 : decode cX9_firstLine 55 = .ok (.iload_n 1, 1) := by decide +kernel
theorem dX9_firstLine_56 : decode cX9_firstLine 56 = .ok (.iaload, 1) := by decide +kernel
theorem dX9_firstLine_57 : decode cX9_firstLine 57 = .ok (.if_icmp .ne 45, 3) := by decide +kernel
theorem dX9_firstLine_60 : decode cX9_firstLine 60 = .ok (.aload_n 0, 1) := by decide +kernel
theorem dX9_firstLine_61 : decode cX9_firstLine 61 = .ok (.getfield 21, 3) := by decide +kernel
theorem dX9_firstLine_64 : decode cX9_firstLine 64 = .ok (.getfield 91, 3) := by decide +kernel
theorem dX9_firstLine_67 : decode cX9_firstLine 67 = .ok (.iload_n 2, 1) := by decide +kernel
theorem dX9_firstLine_68 : decode cX9_firstLine 68 = .ok (.iaload, 1) := by decide +kernel
theorem dX9_firstLine_69 : decode cX9_firstLine 69 = .ok (.ifCond .le 33, 3) := by decide +kernel
theorem dX9_firstLine_72 : decode cX9_firstLine 72 = .ok (.aload_n 0, 1) := by decide +kernel
theorem dX9_firstLine_73 : decode cX9_firstLine 73 = .ok (.getfield 15, 3) := by decide +kernel
theorem dX9_firstLine_76 : decode cX9_firstLine 76 = .ok (.iload_n 2, 1) := by decide +kernel
theorem dX9_firstLine_77 : decode cX9_firstLine 77 = .ok (.iaload, 1) := by decide +kernel
theorem dX9_firstLine_78 : decode cX9_firstLine 78 = .ok (.iconst (-1), 1) := by decide +kernel
theorem dX9_firstLine_79 : decode cX9_firstLine 79 = .ok (.if_icmp .eq 10, 3) := by decide +kernel
theorem dX9_firstLine_82 : decode cX9_firstLine 82 = .ok (.aload_n 0, 1) := by decide +kernel
theorem dX9_firstLine_83 : decode cX9_firstLine 83 = .ok (.getfield 15, 3) := by decide +kernel
theorem dX9_firstLine_86 : decode cX9_firstLine 86 = .ok (.iload_n 2, 1) := by decide +kernel
theorem dX9_firstLine_87 : decode cX9_firstLine 87 = .ok (.iaload, 1) := by decide +kernel
theorem dX9_firstLine_88 : decode cX9_firstLine 88 = .ok (.ireturn, 1) := by decide +kernel
theorem dX9_firstLine_89 : decode cX9_firstLine 89 = .ok (.aload_n 0, 1) := by decide +kernel
theorem dX9_firstLine_90 : decode cX9_firstLine 90 = .ok (.getfield 21, 3) := by decide +kernel
theorem dX9_firstLine_93 : decode cX9_firstLine 93 = .ok (.iload_n 2, 1) := by decide +kernel
theorem dX9_firstLine_94 : decode cX9_firstLine 94 = .ok (.invokevirtual 87, 3) := by decide +kernel
theorem dX9_firstLine_97 : decode cX9_firstLine 97 = .ok (.ifCond .eq 5, 3) := by decide +kernel
theorem dX9_firstLine_100 : decode cX9_firstLine 100 = .ok (.iconst 5, 1) := by decide +kernel
theorem dX9_firstLine_101 : decode cX9_firstLine 101 = .ok (.ireturn, 1) := by decide +kernel
theorem dX9_firstLine_102 : decode cX9_firstLine 102 = .ok (.iinc 2 (-1), 3) := by decide +kernel
theorem dX9_firstLine_105 : decode cX9_firstLine 105 = .ok (.goto (-76), 3) := by decide +kernel
theorem dX9_firstLine_108 : decode cX9_firstLine 108 = .ok (.iconst 0, 1) := by decide +kernel
theorem dX9_firstLine_109 : decode cX9_firstLine 109 = .ok (.ireturn, 1) := by decide +kernel
noncomputable def FX9_firstLine (a0 : Nat) (p1 : Int32) : PP Int32 := bd (FX4_lies (rf a0 2) p1) (fun x1 => if ((b2i x1)) = 0 then pu (5 : Int32) else bd (aI (rf (rf a0 2) 1) 6 p1) (fun x2 => if x2 = 0 then pu (5 : Int32) else lt (p1 - (1 : Int32)) (fun y3 => bd (it (fun (s4 : Int32) => (if s4 < 0 then pu (Sum.inr (Sum.inl ())) else bd (aI (rf (rf (rf a0 2) 0) 6) 6 s4) (fun x5 => bd (aI (rf (rf (rf a0 2) 0) 6) 6 p1) (fun x6 => if x5 = x6 then bd (aI (rf (rf a0 2) 1) 6 s4) (fun x8 => if x8 ≤ 0 then lt (s4 + (-1 : Int32)) (fun y9 => pu (Sum.inl y9)) else bd (aI (rf a0 1) 6 s4) (fun x10 => if x10 = (-1 : Int32) then bd (FX4_lies (rf a0 2) s4) (fun x11 => if ((b2i x11)) = 0 then lt (s4 + (-1 : Int32)) (fun y12 => pu (Sum.inl y12)) else pu (Sum.inr (Sum.inr (Sum.inr (()))))) else pu (Sum.inr (Sum.inr (Sum.inl s4))))) else lt (s4 + (-1 : Int32)) (fun y7 => pu (Sum.inl y7)))) : PP ((Int32) ⊕ ((Unit) ⊕ ((Int32) ⊕ (Unit)))))) FU y3) (Sum.elim (fun (v13 : Unit) => pu (0 : Int32)) (Sum.elim (fun (v14 : Int32) => bd (aI (rf a0 1) 6 v14) (fun x15 => pu x15)) (fun (v16 : Unit) => pu (5 : Int32)))))))
set_option maxHeartbeats 4000000 in
set_option maxRecDepth 100000 in
theorem SX9_firstLine {l : Launch} {K : KK} {n : Nat} {hn : 270 ≤ n} (a0 : Nat) (p1 : Int32) (h0 : ob a0 9) : CT l K n 2 mX9_firstLine [.ref (K.2.1 + a0), .int p1] enI (FX9_firstLine a0 p1) := by
  refine CT.of2 (lv2 := [(0, .ref (K.2.1 + a0)), (1, .int p1)]) (by decide) rfl hn (Nat.le_of_ble_eq_true rfl) rfl (rp_id ?_)
  unfold FX9_firstLine
  refine rp_aload_n 0 dX9_firstLine_0 rfl ?_
  refine rp_getR fi_X9_21 h0 rfl dX9_firstLine_1 ?_
  refine rp_iload_n 1 dX9_firstLine_4 rfl ?_
  refine rp_callVz [.int p1] (SX4_lies (hn := hn) (rf a0 2) p1 (tX9_2 h0)) cvX4_lies (mw (i := 1044) (by decide +kernel)) (by omega) (tX9_2 h0) (by decide) rfl rfl rfl (Nat.le_of_ble_eq_true rfl) dX9_firstLine_5 (fun x1 => ?_)
  refine rp_if_eq 23 dX9_firstLine_8 (by decide) ?_ ?_
  · refine rp_iconst (5 : Int32) dX9_firstLine_23 (by decide) ?_
    exact rp_pu (rp_iret rfl dX9_firstLine_24)
  · refine rp_aload_n 0 dX9_firstLine_11 rfl ?_
    refine rp_getR fi_X9_21 h0 rfl dX9_firstLine_12 ?_
    refine rp_getR fi_X9_91 (tX9_2 h0) rfl dX9_firstLine_15 ?_
    refine rp_iload_n 1 dX9_firstLine_18 rfl ?_
    refine rp_iald (tX4_1 (tX9_2 h0)) dX9_firstLine_19 (fun x2 => ?_)
    refine rp_if_ne 25 dX9_firstLine_20 (by decide) ?_ ?_
    · refine rp_iload_n 1 dX9_firstLine_25 rfl ?_
      refine rp_iconst (1 : Int32) dX9_firstLine_26 (by decide) ?_
      refine rp_isub dX9_firstLine_27 ?_
      refine rp_lti (fun y3 => ?_)
      refine rp_istore_n [(2, .int y3), (0, .ref (K.2.1 + a0)), (1, .int p1)] dX9_firstLine_28 (by decide) rfl ?_
      refine rp_as ?_
      refine rp_join3 108 (fun v13 => []) (fun _ => []) 82 (fun v14 => [(0, .ref (K.2.1 + a0)), (2, .int v14)]) (fun _ => []) 100 (fun v16 => []) (fun _ => []) (fun v13 => ?_) (fun v14 => ?_) (fun v16 => ?_) (fun hX29_0 hX29_1 hX29_2 => ?_)
      · refine rp_iconst (0 : Int32) dX9_firstLine_108 (by decide) ?_
        exact rp_pu (rp_iret rfl dX9_firstLine_109)
      · refine rp_aload_n 0 dX9_firstLine_82 rfl ?_
        refine rp_getR fi_X9_15 h0 rfl dX9_firstLine_83 ?_
        refine rp_iload_n 1 dX9_firstLine_86 rfl ?_
        refine rp_iald (tX9_1 h0) dX9_firstLine_87 (fun x15 => ?_)
        exact rp_pu (rp_iret rfl dX9_firstLine_88)
      · refine rp_iconst (5 : Int32) dX9_firstLine_100 (by decide) ?_
        exact rp_pu (rp_iret rfl dX9_firstLine_101)
      refine rp_sub [1, 2, 0] rfl (rp_it (fun (s4 : Int32) => [(0, .ref (K.2.1 + a0)), (1, .int p1), (2, .int s4)]) (fun N29 ih29 s4 => ?_) FU y3)
      refine rp_iload_n 2 dX9_firstLine_29 rfl ?_
      refine rp_if_lt 108 dX9_firstLine_30 (by decide) ?_ ?_
      · exact rp_sub [] rfl (rp_puRL (hX29_0 ()))
      · refine rp_aload_n 0 dX9_firstLine_33 rfl ?_
        refine rp_getR fi_X9_21 h0 rfl dX9_firstLine_34 ?_
        refine rp_getR fi_X9_44 (tX9_2 h0) rfl dX9_firstLine_37 ?_
        refine rp_getR fi_X9_67 (tX4_0 (tX9_2 h0)) rfl dX9_firstLine_40 ?_
        refine rp_iload_n 2 dX9_firstLine_43 rfl ?_
        refine rp_iald (tX7_6 (tX4_0 (tX9_2 h0))) dX9_firstLine_44 (fun x5 => ?_)
        refine rp_aload_n 0 dX9_firstLine_45 rfl ?_
        refine rp_getR fi_X9_21 h0 rfl dX9_firstLine_46 ?_
        refine rp_getR fi_X9_44 (tX9_2 h0) rfl dX9_firstLine_49 ?_
        refine rp_getR fi_X9_67 (tX4_0 (tX9_2 h0)) rfl dX9_firstLine_52 ?_
        refine rp_iload_n 1 dX9_firstLine_55 rfl ?_
        refine rp_iald (tX7_6 (tX4_0 (tX9_2 h0))) dX9_firstLine_56 (fun x6 => ?_)
        refine rp_icmp_ne 102 dX9_firstLine_57 (by decide) ?_ ?_
        · refine rp_iinc (fun y7 => [(2, .int y7), (0, .ref (K.2.1 + a0)), (1, .int p1)]) 2 dX9_firstLine_102 rfl (by rfl) (by decide) (fun y7 => rfl) (fun y7 => ?_)
          refine rp_goto 29 dX9_firstLine_105 (by decide) ?_
          exact rp_sub [1, 2, 0] rfl (ih29 y7)
        · refine rp_aload_n 0 dX9_firstLine_60 rfl ?_
          refine rp_getR fi_X9_21 h0 rfl dX9_firstLine_61 ?_
          refine rp_getR fi_X9_91 (tX9_2 h0) rfl dX9_firstLine_64 ?_
          refine rp_iload_n 2 dX9_firstLine_67 rfl ?_
          refine rp_iald (tX4_1 (tX9_2 h0)) dX9_firstLine_68 (fun x8 => ?_)
          refine rp_if_le 102 dX9_firstLine_69 (by decide) ?_ ?_
          · refine rp_iinc (fun y9 => [(2, .int y9), (0, .ref (K.2.1 + a0)), (1, .int p1)]) 2 dX9_firstLine_102 rfl (by rfl) (by decide) (fun y9 => rfl) (fun y9 => ?_)
            refine rp_goto 29 dX9_firstLine_105 (by decide) ?_
            exact rp_sub [1, 2, 0] rfl (ih29 y9)
          · refine rp_aload_n 0 dX9_firstLine_72 rfl ?_
            refine rp_getR fi_X9_15 h0 rfl dX9_firstLine_73 ?_
            refine rp_iload_n 2 dX9_firstLine_76 rfl ?_
            refine rp_iald (tX9_1 h0) dX9_firstLine_77 (fun x10 => ?_)
            refine rp_iconst (-1 : Int32) dX9_firstLine_78 (by decide) ?_
            refine rp_icmp_eq 89 dX9_firstLine_79 (by decide) ?_ ?_
            · refine rp_aload_n 0 dX9_firstLine_89 rfl ?_
              refine rp_getR fi_X9_21 h0 rfl dX9_firstLine_90 ?_
              refine rp_iload_n 2 dX9_firstLine_93 rfl ?_
              refine rp_callVz [.int s4] (SX4_lies (hn := hn) (rf a0 2) s4 (tX9_2 h0)) cvX4_lies (mw (i := 1044) (by decide +kernel)) (by omega) (tX9_2 h0) (by decide) rfl rfl rfl (Nat.le_of_ble_eq_true rfl) dX9_firstLine_94 (fun x11 => ?_)
              refine rp_if_eq 102 dX9_firstLine_97 (by decide) ?_ ?_
              · refine rp_iinc (fun y12 => [(2, .int y12), (0, .ref (K.2.1 + a0)), (1, .int p1)]) 2 dX9_firstLine_102 rfl (by rfl) (by decide) (fun y12 => rfl) (fun y12 => ?_)
                refine rp_goto 29 dX9_firstLine_105 (by decide) ?_
                exact rp_sub [1, 2, 0] rfl (ih29 y12)
              · exact rp_sub [] rfl (rp_puRRR (hX29_2 ()))
            · exact rp_sub [0, 2] rfl (rp_puRRL (hX29_1 s4))
    · refine rp_iconst (5 : Int32) dX9_firstLine_23 (by decide) ?_
      exact rp_pu (rp_iret rfl dX9_firstLine_24)

theorem dX9_forgetFrom_0 : decode cX9_forgetFrom 0 = .ok (.iload_n 1, 1) := by decide +kernel
theorem dX9_forgetFrom_1 : decode cX9_forgetFrom 1 = .ok (.istore_n 2, 1) := by decide +kernel
theorem dX9_forgetFrom_2 : decode cX9_forgetFrom 2 = .ok (.iload_n 2, 1) := by decide +kernel
theorem dX9_forgetFrom_3 : decode cX9_forgetFrom 3 = .ok (.bipush 6, 2) := by decide +kernel
theorem dX9_forgetFrom_5 : decode cX9_forgetFrom 5 = .ok (.if_icmp .ge 16, 3) := by decide +kernel
theorem dX9_forgetFrom_8 : decode cX9_forgetFrom 8 = .ok (.aload_n 0, 1) := by decide +kernel
theorem dX9_forgetFrom_9 : decode cX9_forgetFrom 9 = .ok (.getfield 15, 3) := by decide +kernel
theorem dX9_forgetFrom_12 : decode cX9_forgetFrom 12 = .ok (.iload_n 2, 1) := by decide +kernel
theorem dX9_forgetFrom_13 : decode cX9_forgetFrom 13 = .ok (.iconst (-1), 1) := by decide +kernel
theorem dX9_forgetFrom_14 : decode cX9_forgetFrom 14 = .ok (.iastore, 1) := by decide +kernel
theorem dX9_forgetFrom_15 : decode cX9_forgetFrom 15 = .ok (.iinc 2 1, 3) := by decide +kernel
theorem dX9_forgetFrom_18 : decode cX9_forgetFrom 18 = .ok (.goto (-16), 3) := by decide +kernel
theorem dX9_forgetFrom_21 : decode cX9_forgetFrom 21 = .ok (.return_, 1) := by decide +kernel
noncomputable def FX9_forgetFrom (a0 : Nat) (p1 : Int32) : PP Unit := bd (it (fun (s1 : Int32) => (if (6 : Int32) ≤ s1 then pu (Sum.inr ()) else bd (uI (rf a0 1) 6 s1 (-1 : Int32)) (fun (_ : Unit) => lt (s1 + (1 : Int32)) (fun y2 => pu (Sum.inl y2))) : PP ((Int32) ⊕ (Unit)))) FU p1) (fun (v3 : Unit) => pu ())
set_option maxHeartbeats 4000000 in
set_option maxRecDepth 100000 in
theorem SX9_forgetFrom {l : Launch} {K : KK} {n : Nat} {hn : 270 ≤ n} (a0 : Nat) (p1 : Int32) (h0 : ob a0 9) : CT l K n 0 mX9_forgetFrom [.ref (K.2.1 + a0), .int p1] enU (FX9_forgetFrom a0 p1) := by
  refine CT.of2 (lv2 := [(0, .ref (K.2.1 + a0)), (1, .int p1)]) (by decide) rfl hn (Nat.le_of_ble_eq_true rfl) rfl (rp_id ?_)
  unfold FX9_forgetFrom
  refine rp_iload_n 1 dX9_forgetFrom_0 rfl ?_
  refine rp_istore_n [(2, .int p1), (0, .ref (K.2.1 + a0)), (1, .int p1)] dX9_forgetFrom_1 (by decide) rfl ?_
  refine rp_as ?_
  refine rp_join 21 (fun v3 => []) (fun _ => []) (fun v3 => ?_) (fun hX2_0 => ?_)
  · exact rp_pu (rp_vret rfl dX9_forgetFrom_21)
  refine rp_sub [1, 0] rfl (rp_it (fun (s1 : Int32) => [(0, .ref (K.2.1 + a0)), (2, .int s1)]) (fun N2 ih2 s1 => ?_) FU p1)
  refine rp_iload_n 1 dX9_forgetFrom_2 rfl ?_
  refine rp_bipush (6 : Int32) dX9_forgetFrom_3 (by decide) ?_
  refine rp_icmp_ge 21 dX9_forgetFrom_5 (by decide) ?_ ?_
  · exact rp_sub [] rfl (rp_puR (hX2_0 ()))
  · refine rp_aload_n 0 dX9_forgetFrom_8 rfl ?_
    refine rp_getR fi_X9_15 h0 rfl dX9_forgetFrom_9 ?_
    refine rp_iload_n 1 dX9_forgetFrom_12 rfl ?_
    refine rp_iconst (-1 : Int32) dX9_forgetFrom_13 (by decide) ?_
    refine rp_iast (tX9_1 h0) dX9_forgetFrom_14 ?_
    refine rp_iinc (fun y2 => [(2, .int y2), (0, .ref (K.2.1 + a0))]) 1 dX9_forgetFrom_15 rfl (by rfl) (by decide) (fun y2 => rfl) (fun y2 => ?_)
    refine rp_goto 2 dX9_forgetFrom_18 (by decide) ?_
    exact rp_sub [1, 0] rfl (ih2 y2)

theorem dX9_leftOf_0 : decode cX9_leftOf 0 = .ok (.iconst 0, 1) := by decide +kernel
theorem dX9_leftOf_1 : decode cX9_leftOf 1 = .ok (.istore_n 3, 1) := by decide +kernel
theorem dX9_leftOf_2 : decode cX9_leftOf 2 = .ok (.iload_n 2, 1) := by decide +kernel
theorem dX9_leftOf_3 : decode cX9_leftOf 3 = .ok (.istore 4, 2) := by decide +kernel
theorem dX9_leftOf_5 : decode cX9_leftOf 5 = .ok (.iload 4, 2) := by decide +kernel
theorem dX9_leftOf_7 : decode cX9_leftOf 7 = .ok (.aload_n 0, 1) := by decide +kernel
theorem dX9_leftOf_8 : decode cX9_leftOf 8 = .ok (.getfield 21, 3) := by decide +kernel
theorem dX9_leftOf_11 : decode cX9_leftOf 11 = .ok (.getfield 44, 3) := by decide +kernel
theorem dX9_leftOf_14 : decode cX9_leftOf 14 = .ok (.getfield 64, 3) := by decide +kernel
theorem dX9_leftOf_17 : decode cX9_leftOf 17 = .ok (.if_icmp .ge 54, 3) := by decide +kernel
theorem dX9_leftOf_20 : decode cX9_leftOf 20 = .ok (.aload_n 0, 1) := by decide +kernel
theorem dX9_leftOf_21 : decode cX9_leftOf 21 = .ok (.getfield 21, 3) := by decide +kernel
theorem dX9_leftOf_24 : decode cX9_leftOf 24 = .ok (.iload 4, 2) := by decide +kernel
theorem dX9_leftOf_26 : decode cX9_leftOf 26 = .ok (.invokevirtual 87, 3) := by decide +kernel
theorem dX9_leftOf_29 : decode cX9_leftOf 29 = .ok (.ifCond .eq 36, 3) := by decide +kernel
theorem dX9_leftOf_32 : decode cX9_leftOf 32 = .ok (.aload_n 0, 1) := by decide +kernel
theorem dX9_leftOf_33 : decode cX9_leftOf 33 = .ok (.getfield 21, 3) := by decide +kernel
theorem dX9_leftOf_36 : decode cX9_leftOf 36 = .ok (.getfield 91, 3) := by decide +kernel
theorem dX9_leftOf_39 : decode cX9_leftOf 39 = .ok (.iload 4, 2) := by decide +kernel
theorem dX9_leftOf_41 : decode cX9_leftOf 41 = .ok (.iaload, 1) := by decide +kernel
theorem dX9_leftOf_42 : decode cX9_leftOf 42 = .ok (.ifCond .le 23, 3) := by decide +kernel
theorem dX9_leftOf_45 : decode cX9_leftOf 45 = .ok (.aload_n 0, 1) := by decide +kernel
theorem dX9_leftOf_46 : decode cX9_leftOf 46 = .ok (.getfield 21, 3) := by decide +kernel
theorem dX9_leftOf_49 : decode cX9_leftOf 49 = .ok (.getfield 44, 3) := by decide +kernel
theorem dX9_leftOf_52 : decode cX9_leftOf 52 = .ok (.getfield 67, 3) := by decide +kernel
theorem dX9_leftOf_55 : decode cX9_leftOf 55 = .ok (.iload 4, 2) := by decide +kernel
theorem dX9_leftOf_57 : decode cX9_leftOf 57 = .ok (.iaload, 1) := by decide +kernel
theorem dX9_leftOf_58 : decode cX9_leftOf 58 = .ok (.iload_n 1, 1) := by decide +kernel
theorem dX9_leftOf_59 : decode cX9_leftOf 59 = .ok (.if_icmp .ne 6, 3) := by decide +kernel
theorem dX9_leftOf_62 : decode cX9_leftOf 62 = .ok (.iinc 3 1, 3) := by decide +kernel
theorem dX9_leftOf_65 : decode cX9_leftOf 65 = .ok (.iinc 4 1, 3) := by decide +kernel
theorem dX9_leftOf_68 : decode cX9_leftOf 68 = .ok (.goto (-63), 3) := by decide +kernel
theorem dX9_leftOf_71 : decode cX9_leftOf 71 = .ok (.iload_n 3, 1) := by decide +kernel
theorem dX9_leftOf_72 : decode cX9_leftOf 72 = .ok (.ireturn, 1) := by decide +kernel
noncomputable def FX9_leftOf (a0 : Nat) (p1 : Int32) (p2 : Int32) : PP Int32 := bd (it (fun (s1 : Int32 × Int32) => (bd (gI (rf (rf a0 2) 0) 11) (fun x2 => if x2 ≤ s1.2 then pu (Sum.inr s1.1) else bd (FX4_lies (rf a0 2) s1.2) (fun x3 => bd (if ((b2i x3)) = 0 then pu s1.1 else bd (aI (rf (rf a0 2) 1) 6 s1.2) (fun x4 => if x4 ≤ 0 then pu s1.1 else bd (aI (rf (rf (rf a0 2) 0) 6) 6 s1.2) (fun x5 => if x5 = p1 then lt (s1.1 + (1 : Int32)) (fun y6 => pu y6) else pu s1.1)) : PP (Int32)) (fun (v7 : Int32) => lt (s1.2 + (1 : Int32)) (fun y8 => pu (Sum.inl (v7, y8)))))) : PP ((Int32 × Int32) ⊕ (Int32)))) FU ((0 : Int32), p2)) (fun (v9 : Int32) => pu v9)
set_option maxHeartbeats 4000000 in
set_option maxRecDepth 100000 in
theorem SX9_leftOf {l : Launch} {K : KK} {n : Nat} {hn : 270 ≤ n} (a0 : Nat) (p1 : Int32) (p2 : Int32) (h0 : ob a0 9) : CT l K n 2 mX9_leftOf [.ref (K.2.1 + a0), .int p1, .int p2] enI (FX9_leftOf a0 p1 p2) := by
  refine CT.of2 (lv2 := [(0, .ref (K.2.1 + a0)), (1, .int p1), (2, .int p2)]) (by decide) rfl hn (Nat.le_of_ble_eq_true rfl) rfl (rp_id ?_)
  unfold FX9_leftOf
  refine rp_iconst (0 : Int32) dX9_leftOf_0 (by decide) ?_
  refine rp_istore_n [(3, .int (0 : Int32)), (0, .ref (K.2.1 + a0)), (1, .int p1), (2, .int p2)] dX9_leftOf_1 (by decide) rfl ?_
  refine rp_iload_n 3 dX9_leftOf_2 rfl ?_
  refine rp_istore [(4, .int p2), (3, .int (0 : Int32)), (0, .ref (K.2.1 + a0)), (1, .int p1), (2, .int p2)] dX9_leftOf_3 (by decide) rfl ?_
  refine rp_as ?_
  refine rp_join 71 (fun v9 => [(3, .int v9)]) (fun _ => []) (fun v9 => ?_) (fun hX5_0 => ?_)
  · refine rp_iload_n 0 dX9_leftOf_71 rfl ?_
    exact rp_pu (rp_iret rfl dX9_leftOf_72)
  refine rp_sub [2, 3, 1, 0] rfl (rp_it (fun (s1 : Int32 × Int32) => [(0, .ref (K.2.1 + a0)), (1, .int p1), (3, .int s1.1), (4, .int s1.2)]) (fun N5 ih5 s1 => ?_) FU ((0 : Int32), p2))
  refine rp_iload 3 dX9_leftOf_5 rfl ?_
  refine rp_aload_n 0 dX9_leftOf_7 rfl ?_
  refine rp_getR fi_X9_21 h0 rfl dX9_leftOf_8 ?_
  refine rp_getR fi_X9_44 (tX9_2 h0) rfl dX9_leftOf_11 ?_
  refine rp_getI fi_X9_64 (tX4_0 (tX9_2 h0)) rfl dX9_leftOf_14 (fun x2 => ?_)
  refine rp_icmp_ge 71 dX9_leftOf_17 (by decide) ?_ ?_
  · exact rp_sub [2] rfl (rp_puR (hX5_0 s1.1))
  · refine rp_aload_n 0 dX9_leftOf_20 rfl ?_
    refine rp_getR fi_X9_21 h0 rfl dX9_leftOf_21 ?_
    refine rp_iload 3 dX9_leftOf_24 rfl ?_
    refine rp_callVz [.int s1.2] (SX4_lies (hn := hn) (rf a0 2) s1.2 (tX9_2 h0)) cvX4_lies (mw (i := 1044) (by decide +kernel)) (by omega) (tX9_2 h0) (by decide) rfl rfl rfl (Nat.le_of_ble_eq_true rfl) dX9_leftOf_26 (fun x3 => ?_)
    refine rp_as ?_
    refine rp_join 65 (fun (v7 : Int32) => [(0, .ref (K.2.1 + a0)), (1, .int p1), (3, .int v7), (4, .int s1.2)]) (fun v7 => []) (fun v7 => ?_) (fun hJ65 => ?_)
    · refine rp_iinc (fun y8 => [(4, .int y8), (0, .ref (K.2.1 + a0)), (1, .int p1), (3, .int v7)]) 3 dX9_leftOf_65 rfl (by rfl) (by decide) (fun y8 => rfl) (fun y8 => ?_)
      refine rp_goto 5 dX9_leftOf_68 (by decide) ?_
      exact rp_sub [1, 2, 3, 0] rfl (ih5 (v7, y8))
    refine rp_if_eq 65 dX9_leftOf_29 (by decide) ?_ ?_
    · exact rp_sub [0, 1, 2, 3] rfl (rp_pu (hJ65 s1.1))
    · refine rp_aload_n 0 dX9_leftOf_32 rfl ?_
      refine rp_getR fi_X9_21 h0 rfl dX9_leftOf_33 ?_
      refine rp_getR fi_X9_91 (tX9_2 h0) rfl dX9_leftOf_36 ?_
      refine rp_iload 3 dX9_leftOf_39 rfl ?_
      refine rp_iald (tX4_1 (tX9_2 h0)) dX9_leftOf_41 (fun x4 => ?_)
      refine rp_if_le 65 dX9_leftOf_42 (by decide) ?_ ?_
      · exact rp_sub [0, 1, 2, 3] rfl (rp_pu (hJ65 s1.1))
      · refine rp_aload_n 0 dX9_leftOf_45 rfl ?_
        refine rp_getR fi_X9_21 h0 rfl dX9_leftOf_46 ?_
        refine rp_getR fi_X9_44 (tX9_2 h0) rfl dX9_leftOf_49 ?_
        refine rp_getR fi_X9_67 (tX4_0 (tX9_2 h0)) rfl dX9_leftOf_52 ?_
        refine rp_iload 3 dX9_leftOf_55 rfl ?_
        refine rp_iald (tX7_6 (tX4_0 (tX9_2 h0))) dX9_leftOf_57 (fun x5 => ?_)
        refine rp_iload_n 1 dX9_leftOf_58 rfl ?_
        refine rp_icmp_ne 65 dX9_leftOf_59 (by decide) ?_ ?_
        · exact rp_sub [0, 1, 2, 3] rfl (rp_pu (hJ65 s1.1))
        · refine rp_iinc (fun y6 => [(3, .int y6), (0, .ref (K.2.1 + a0)), (1, .int p1), (4, .int s1.2)]) 2 dX9_leftOf_62 rfl (by rfl) (by decide) (fun y6 => rfl) (fun y6 => ?_)
          exact rp_sub [1, 2, 0, 3] rfl (rp_pu (hJ65 y6))

theorem dX9_wins_0 : decode cX9_wins 0 = .ok (.iconst 1, 1) := by decide +kernel
theorem dX9_wins_1 : decode cX9_wins 1 = .ok (.istore_n 3, 1) := by decide +kernel
theorem dX9_wins_2 : decode cX9_wins 2 = .ok (.iconst 0, 1) := by decide +kernel
theorem dX9_wins_3 : decode cX9_wins 3 = .ok (.istore 4, 2) := by decide +kernel
theorem dX9_wins_5 : decode cX9_wins 5 = .ok (.iload 4, 2) := by decide +kernel
theorem dX9_wins_7 : decode cX9_wins 7 = .ok (.iconst 4, 1) := by decide +kernel
theorem dX9_wins_8 : decode cX9_wins 8 = .ok (.if_icmp .ge 62, 3) := by decide +kernel
theorem dX9_wins_11 : decode cX9_wins 11 = .ok (.getstatic 116, 3) := by decide +kernel
theorem dX9_wins_14 : decode cX9_wins 14 = .ok (.iload 4, 2) := by decide +kernel
theorem dX9_wins_16 : decode cX9_wins 16 = .ok (.iaload, 1) := by decide +kernel
theorem dX9_wins_17 : decode cX9_wins 17 = .ok (.istore 5, 2) := by decide +kernel
theorem dX9_wins_19 : decode cX9_wins 19 = .ok (.iload 5, 2) := by decide +kernel
theorem dX9_wins_21 : decode cX9_wins 21 = .ok (.iload_n 1, 1) := by decide +kernel
theorem dX9_wins_22 : decode cX9_wins 22 = .ok (.if_icmp .ne 8, 3) := by decide +kernel
theorem dX9_wins_25 : decode cX9_wins 25 = .ok (.iconst 0, 1) := by decide +kernel
theorem dX9_wins_26 : decode cX9_wins 26 = .ok (.istore_n 3, 1) := by decide +kernel
theorem dX9_wins_27 : decode cX9_wins 27 = .ok (.goto 37, 3) := by decide +kernel
theorem dX9_wins_30 : decode cX9_wins 30 = .ok (.aload_n 0, 1) := by decide +kernel
theorem dX9_wins_31 : decode cX9_wins 31 = .ok (.getfield 21, 3) := by decide +kernel
theorem dX9_wins_34 : decode cX9_wins 34 = .ok (.getfield 102, 3) := by decide +kernel
theorem dX9_wins_37 : decode cX9_wins 37 = .ok (.iload 5, 2) := by decide +kernel
theorem dX9_wins_39 : decode cX9_wins 39 = .ok (.iaload, 1) := by decide +kernel
theorem dX9_wins_40 : decode cX9_wins 40 = .ok (.iload_n 2, 1) := by decide +kernel
theorem dX9_wins_41 : decode cX9_wins 41 = .ok (.if_icmp .gt 21, 3) := by decide +kernel
theorem dX9_wins_44 : decode cX9_wins 44 = .ok (.iload_n 3, 1) := by decide +kernel
theorem dX9_wins_45 : decode cX9_wins 45 = .ok (.ifCond .eq 19, 3) := by decide +kernel
theorem dX9_wins_48 : decode cX9_wins 48 = .ok (.aload_n 0, 1) := by decide +kernel
theorem dX9_wins_49 : decode cX9_wins 49 = .ok (.getfield 21, 3) := by decide +kernel
theorem dX9_wins_52 : decode cX9_wins 52 = .ok (.getfield 102, 3) := by decide +kernel
theorem dX9_wins_55 : decode cX9_wins 55 = .ok (.iload 5, 2) := by decide +kernel
theorem dX9_wins_57 : decode cX9_wins 57 = .ok (.iaload, 1) := by decide +kernel
theorem dX9_wins_58 : decode cX9_wins 58 = .ok (.iload_n 2, 1) := by decide +kernel
theorem dX9_wins_59 : decode cX9_wins 59 = .ok (.if_icmp .ne 5, 3) := by decide +kernel
theorem dX9_wins_62 : decode cX9_wins 62 = .ok (.iconst 0, 1) := by decide +kernel
theorem dX9_wins_63 : decode cX9_wins 63 = .ok (.ireturn, 1) := by decide +kernel
theorem dX9_wins_64 : decode cX9_wins 64 = .ok (.iinc 4 1, 3) := by decide +kernel
theorem dX9_wins_67 : decode cX9_wins 67 = .ok (.goto (-62), 3) := by decide +kernel
theorem dX9_wins_70 : decode cX9_wins 70 = .ok (.iload_n 2, 1) := by decide +kernel
theorem dX9_wins_71 : decode cX9_wins 71 = .ok (.ifCond .le 7, 3) := by decide +kernel
theorem dX9_wins_74 : decode cX9_wins 74 = .ok (.iconst 1, 1) := by decide +kernel
theorem dX9_wins_75 : decode cX9_wins 75 = .ok (.goto 4, 3) := by decide +kernel
theorem dX9_wins_78 : decode cX9_wins 78 = .ok (.iconst 0, 1) := by decide +kernel
theorem dX9_wins_79 : decode cX9_wins 79 = .ok (.ireturn, 1) := by decide +kernel
noncomputable def FX9_wins (a0 : Nat) (p1 : Int32) (p2 : Int32) : PP Bool := bd (it (fun (s1 : Int32 × Int32) => (if (4 : Int32) ≤ s1.2 then pu (Sum.inr (Sum.inl ())) else bd (aR s1.2) (fun x2 => if x2 = p1 then lt (s1.2 + (1 : Int32)) (fun y7 => pu (Sum.inl ((0 : Int32), y7))) else bd (aI (rf (rf a0 2) 4) 4 x2) (fun x3 => if p2 < x3 then pu (Sum.inr (Sum.inr (()))) else if s1.1 = 0 then lt (s1.2 + (1 : Int32)) (fun y4 => pu (Sum.inl (s1.1, y4))) else bd (aI (rf (rf a0 2) 4) 4 x2) (fun x5 => if x5 = p2 then pu (Sum.inr (Sum.inr (()))) else lt (s1.2 + (1 : Int32)) (fun y6 => pu (Sum.inl (s1.1, y6)))))) : PP ((Int32 × Int32) ⊕ ((Unit) ⊕ (Unit))))) FU ((1 : Int32), (0 : Int32))) (Sum.elim (fun (v8 : Unit) => bd (if p2 ≤ 0 then pu (0 : Int32) else pu (1 : Int32) : PP (Int32)) (fun (v9 : Int32) => zb v9)) (fun (v10 : Unit) => zb (0 : Int32)))
set_option maxHeartbeats 4000000 in
set_option maxRecDepth 100000 in
theorem SX9_wins {l : Launch} {K : KK} {n : Nat} {hn : 270 ≤ n} (a0 : Nat) (p1 : Int32) (p2 : Int32) (h0 : ob a0 9) : CT l K n 0 mX9_wins [.ref (K.2.1 + a0), .int p1, .int p2] enZ (FX9_wins a0 p1 p2) := by
  refine CT.of2 (lv2 := [(0, .ref (K.2.1 + a0)), (1, .int p1), (2, .int p2)]) (by decide) rfl hn (Nat.le_of_ble_eq_true rfl) rfl (rp_id ?_)
  unfold FX9_wins
  refine rp_iconst (1 : Int32) dX9_wins_0 (by decide) ?_
  refine rp_istore_n [(3, .int (1 : Int32)), (0, .ref (K.2.1 + a0)), (1, .int p1), (2, .int p2)] dX9_wins_1 (by decide) rfl ?_
  refine rp_iconst (0 : Int32) dX9_wins_2 (by decide) ?_
  refine rp_istore [(4, .int (0 : Int32)), (3, .int (1 : Int32)), (0, .ref (K.2.1 + a0)), (1, .int p1), (2, .int p2)] dX9_wins_3 (by decide) rfl ?_
  refine rp_as ?_
  refine rp_join2 70 (fun v8 => [(2, .int p2)]) (fun _ => []) 62 (fun v10 => []) (fun _ => []) (fun v8 => ?_) (fun v10 => ?_) (fun hX5_0 hX5_1 => ?_)
  · refine rp_iload_n 0 dX9_wins_70 rfl ?_
    refine rp_as ?_
    refine rp_join 79 (fun (v9 : Int32) => []) (fun v9 => [.int v9]) (fun v9 => ?_) (fun hJ79 => ?_)
    · exact rp_zretb rfl dX9_wins_79
    refine rp_if_le 78 dX9_wins_71 (by decide) ?_ ?_
    · refine rp_iconst (0 : Int32) dX9_wins_78 (by decide) ?_
      exact rp_sub [] rfl (rp_pu (hJ79 (0 : Int32)))
    · refine rp_iconst (1 : Int32) dX9_wins_74 (by decide) ?_
      refine rp_goto 79 dX9_wins_75 (by decide) ?_
      exact rp_sub [] rfl (rp_pu (hJ79 (1 : Int32)))
  · refine rp_iconst (0 : Int32) dX9_wins_62 (by decide) ?_
    exact rp_zretb rfl dX9_wins_63
  refine rp_sub [2, 3, 4, 1, 0] rfl (rp_it (fun (s1 : Int32 × Int32) => [(0, .ref (K.2.1 + a0)), (1, .int p1), (2, .int p2), (3, .int s1.1), (4, .int s1.2)]) (fun N5 ih5 s1 => ?_) FU ((1 : Int32), (0 : Int32)))
  refine rp_iload 4 dX9_wins_5 rfl ?_
  refine rp_iconst (4 : Int32) dX9_wins_7 (by decide) ?_
  refine rp_icmp_ge 70 dX9_wins_8 (by decide) ?_ ?_
  · exact rp_sub [2] rfl (rp_puRL (hX5_0 ()))
  · refine rp_getRanks (by decide) dX9_wins_11 ?_
    refine rp_iload 4 dX9_wins_14 rfl ?_
    refine rp_aldRanks dX9_wins_16 (fun x2 => ?_)
    refine rp_istore [(5, .int x2), (0, .ref (K.2.1 + a0)), (1, .int p1), (2, .int p2), (3, .int s1.1), (4, .int s1.2)] dX9_wins_17 (by decide) rfl ?_
    refine rp_iload 0 dX9_wins_19 rfl ?_
    refine rp_iload_n 2 dX9_wins_21 rfl ?_
    refine rp_icmp_ne 30 dX9_wins_22 (by decide) ?_ ?_
    · refine rp_aload_n 1 dX9_wins_30 rfl ?_
      refine rp_getR fi_X9_21 h0 rfl dX9_wins_31 ?_
      refine rp_getR fi_X9_102 (tX9_2 h0) rfl dX9_wins_34 ?_
      refine rp_iload 0 dX9_wins_37 rfl ?_
      refine rp_iald (tX4_4 (tX9_2 h0)) dX9_wins_39 (fun x3 => ?_)
      refine rp_iload_n 3 dX9_wins_40 rfl ?_
      refine rp_icmp_gt 62 dX9_wins_41 (by decide) ?_ ?_
      · exact rp_sub [] rfl (rp_puRR (hX5_1 ()))
      · refine rp_iload_n 4 dX9_wins_44 rfl ?_
        refine rp_if_eq 64 dX9_wins_45 (by decide) ?_ ?_
        · refine rp_iinc (fun y4 => [(4, .int y4), (5, .int x2), (0, .ref (K.2.1 + a0)), (1, .int p1), (2, .int p2), (3, .int s1.1)]) 5 dX9_wins_64 rfl (by rfl) (by decide) (fun y4 => rfl) (fun y4 => ?_)
          refine rp_goto 5 dX9_wins_67 (by decide) ?_
          exact rp_sub [2, 3, 4, 5, 0] rfl (ih5 (s1.1, y4))
        · refine rp_aload_n 1 dX9_wins_48 rfl ?_
          refine rp_getR fi_X9_21 h0 rfl dX9_wins_49 ?_
          refine rp_getR fi_X9_102 (tX9_2 h0) rfl dX9_wins_52 ?_
          refine rp_iload 0 dX9_wins_55 rfl ?_
          refine rp_iald (tX4_4 (tX9_2 h0)) dX9_wins_57 (fun x5 => ?_)
          refine rp_iload_n 3 dX9_wins_58 rfl ?_
          refine rp_icmp_ne 64 dX9_wins_59 (by decide) ?_ ?_
          · refine rp_iinc (fun y6 => [(4, .int y6), (5, .int x2), (0, .ref (K.2.1 + a0)), (1, .int p1), (2, .int p2), (3, .int s1.1)]) 5 dX9_wins_64 rfl (by rfl) (by decide) (fun y6 => rfl) (fun y6 => ?_)
            refine rp_goto 5 dX9_wins_67 (by decide) ?_
            exact rp_sub [2, 3, 4, 5, 0] rfl (ih5 (s1.1, y6))
          · exact rp_sub [] rfl (rp_puRR (hX5_1 ()))
    · refine rp_iconst (0 : Int32) dX9_wins_25 (by decide) ?_
      refine rp_istore_n [(3, .int (0 : Int32)), (5, .int x2), (0, .ref (K.2.1 + a0)), (1, .int p1), (2, .int p2), (4, .int s1.2)] dX9_wins_26 (by decide) rfl ?_
      refine rp_goto 64 dX9_wins_27 (by decide) ?_
      refine rp_iinc (fun y7 => [(4, .int y7), (3, .int (0 : Int32)), (5, .int x2), (0, .ref (K.2.1 + a0)), (1, .int p1), (2, .int p2)]) 5 dX9_wins_64 rfl (by rfl) (by decide) (fun y7 => rfl) (fun y7 => ?_)
      refine rp_goto 5 dX9_wins_67 (by decide) ?_
      exact rp_sub [3, 4, 5, 1, 0] rfl (ih5 ((0 : Int32), y7))

theorem dX9_canStillBe_0 : decode cX9_canStillBe 0 = .ok (.iconst 0, 1) := by decide +kernel
theorem dX9_canStillBe_1 : decode cX9_canStillBe 1 = .ok (.istore_n 3, 1) := by decide +kernel
theorem dX9_canStillBe_2 : decode cX9_canStillBe 2 = .ok (.iload_n 3, 1) := by decide +kernel
theorem dX9_canStillBe_3 : decode cX9_canStillBe 3 = .ok (.aload_n 0, 1) := by decide +kernel
theorem dX9_canStillBe_4 : decode cX9_canStillBe 4 = .ok (.getfield 21, 3) := by decide +kernel
theorem dX9_canStillBe_7 : decode cX9_canStillBe 7 = .ok (.getfield 44, 3) := by decide +kernel
theorem dX9_canStillBe_10 : decode cX9_canStillBe 10 = .ok (.getfield 48, 3) := by decide +kernel
theorem dX9_canStillBe_13 : decode cX9_canStillBe 13 = .ok (.if_icmp .ge 85, 3) := by decide +kernel
theorem dX9_canStillBe_16 : decode cX9_canStillBe 16 = .ok (.aload_n 0, 1) := by decide +kernel
theorem dX9_canStillBe_17 : decode cX9_canStillBe 17 = .ok (.getfield 11, 3) := by decide +kernel
theorem dX9_canStillBe_20 : decode cX9_canStillBe 20 = .ok (.iload_n 3, 1) := by decide +kernel
theorem dX9_canStillBe_21 : decode cX9_canStillBe 21 = .ok (.iaload, 1) := by decide +kernel
theorem dX9_canStillBe_22 : decode cX9_canStillBe 22 = .ok (.istore 4, 2) := by decide +kernel
theorem dX9_canStillBe_24 : decode cX9_canStillBe 24 = .ok (.iload 4, 2) := by decide +kernel
theorem dX9_canStillBe_26 : decode cX9_canStillBe 26 = .ok (.iconst (-1), 1) := by decide +kernel
theorem dX9_canStillBe_27 : decode cX9_canStillBe 27 = .ok (.if_icmp .ne 18, 3) := by decide +kernel
theorem dX9_canStillBe_30 : decode cX9_canStillBe 30 = .ok (.aload_n 0, 1) := by decide +kernel
theorem dX9_canStillBe_31 : decode cX9_canStillBe 31 = .ok (.getfield 21, 3) := by decide +kernel
theorem dX9_canStillBe_34 : decode cX9_canStillBe 34 = .ok (.iload_n 3, 1) := by decide +kernel
theorem dX9_canStillBe_35 : decode cX9_canStillBe 35 = .ok (.iconst 0, 1) := by decide +kernel
theorem dX9_canStillBe_36 : decode cX9_canStillBe 36 = .ok (.invokevirtual 94, 3) := by decide +kernel
theorem dX9_canStillBe_39 : decode cX9_canStillBe 39 = .ok (.iconst (-1), 1) := by decide +kernel
theorem dX9_canStillBe_40 : decode cX9_canStillBe 40 = .ok (.if_icmp .eq 5, 3) := by decide +kernel
theorem dX9_canStillBe_43 : decode cX9_canStillBe 43 = .ok (.iconst 0, 1) := by decide +kernel
theorem dX9_canStillBe_44 : decode cX9_canStillBe 44 = .ok (.ireturn, 1) := by decide +kernel
theorem dX9_canStillBe_45 : decode cX9_canStillBe 45 = .ok (.iload 4, 2) := by decide +kernel
theorem dX9_canStillBe_47 : decode cX9_canStillBe 47 = .ok (.ifCond .lt 45, 3) := by decide +kernel
theorem dX9_canStillBe_50 : decode cX9_canStillBe 50 = .ok (.aload_n 0, 1) := by decide +kernel
theorem dX9_canStillBe_51 : decode cX9_canStillBe 51 = .ok (.getfield 21, 3) := by decide +kernel
theorem dX9_canStillBe_54 : decode cX9_canStillBe 54 = .ok (.iload_n 3, 1) := by decide +kernel
theorem dX9_canStillBe_55 : decode cX9_canStillBe 55 = .ok (.iconst 0, 1) := by decide +kernel
theorem dX9_canStillBe_56 : decode cX9_canStillBe 56 = .ok (.invokevirtual 98, 3) := by decide +kernel
theorem dX9_canStillBe_59 : decode cX9_canStillBe 59 = .ok (.aload_n 0, 1) := by decide +kernel
theorem dX9_canStillBe_60 : decode cX9_canStillBe 60 = .ok (.iload 4, 2) := by decide +kernel
theorem dX9_canStillBe_62 : decode cX9_canStillBe 62 = .ok (.aload_n 0, 1) := by decide +kernel
theorem dX9_canStillBe_63 : decode cX9_canStillBe 63 = .ok (.getfield 21, 3) := by decide +kernel
theorem dX9_canStillBe_66 : decode cX9_canStillBe 66 = .ok (.getfield 102, 3) := by decide +kernel
theorem dX9_canStillBe_69 : decode cX9_canStillBe 69 = .ok (.iload 4, 2) := by decide +kernel
theorem dX9_canStillBe_71 : decode cX9_canStillBe 71 = .ok (.iaload, 1) := by decide +kernel
theorem dX9_canStillBe_72 : decode cX9_canStillBe 72 = .ok (.iload_n 2, 1) := by decide +kernel
theorem dX9_canStillBe_73 : decode cX9_canStillBe 73 = .ok (.aload_n 0, 1) := by decide +kernel
theorem dX9_canStillBe_74 : decode cX9_canStillBe 74 = .ok (.iload 4, 2) := by decide +kernel
theorem dX9_canStillBe_76 : decode cX9_canStillBe 76 = .ok (.iload_n 1, 1) := by decide +kernel
theorem dX9_canStillBe_77 : decode cX9_canStillBe 77 = .ok (.invokevirtual 105, 3) := by decide +kernel
theorem dX9_canStillBe_80 : decode cX9_canStillBe 80 = .ok (.invokestatic 108, 3) := by decide +kernel
theorem dX9_canStillBe_83 : decode cX9_canStillBe 83 = .ok (.iadd, 1) := by decide +kernel
theorem dX9_canStillBe_84 : decode cX9_canStillBe 84 = .ok (.invokevirtual 113, 3) := by decide +kernel
theorem dX9_canStillBe_87 : decode cX9_canStillBe 87 = .ok (.ifCond .ne 5, 3) := by decide +kernel
theorem dX9_canStillBe_90 : decode cX9_canStillBe 90 = .ok (.iconst 0, 1) := by decide +kernel
theorem dX9_canStillBe_91 : decode cX9_canStillBe 91 = .ok (.ireturn, 1) := by decide +kernel
theorem dX9_canStillBe_92 : decode cX9_canStillBe 92 = .ok (.iinc 3 1, 3) := by decide +kernel
theorem dX9_canStillBe_95 : decode cX9_canStillBe 95 = .ok (.goto (-93), 3) := by decide +kernel
theorem dX9_canStillBe_98 : decode cX9_canStillBe 98 = .ok (.iconst 1, 1) := by decide +kernel
theorem dX9_canStillBe_99 : decode cX9_canStillBe 99 = .ok (.ireturn, 1) := by decide +kernel
noncomputable def FX9_canStillBe (a0 : Nat) (p1 : Int32) (p2 : Int32) : PP Bool := bd (it (fun (s1 : Int32) => (bd (gI (rf (rf a0 2) 0) 10) (fun x2 => if x2 ≤ s1 then pu (Sum.inr (Sum.inl ())) else bd (aI (rf a0 0) 4 s1) (fun x3 => jn (fun (v6 : Unit) => if x3 < 0 then lt (s1 + (1 : Int32)) (fun y7 => pu (Sum.inl y7)) else bd (FX4_countKinds (rf a0 2) s1 (0 : Int32)) (fun (_ : Unit) => bd (aI (rf (rf a0 2) 4) 4 x3) (fun x9 => bd (FX9_leftOf a0 x3 p1) (fun x10 => bd (FX9_wins a0 x3 (x9 + ((if x10 < p2 then x10 else p2)))) (fun x11 => if ((b2i x11)) = 0 then pu (Sum.inr (Sum.inr (Sum.inr (())))) else lt (s1 + (1 : Int32)) (fun y12 => pu (Sum.inl y12))))))) (fun j4 => if x3 = (-1 : Int32) then bd (FX4_weather (rf a0 2) s1 (0 : Int32)) (fun x5 => if x5 = (-1 : Int32) then j4 () else pu (Sum.inr (Sum.inr (Sum.inl ())))) else j4 ()))) : PP ((Int32) ⊕ ((Unit) ⊕ ((Unit) ⊕ (Unit)))))) FU (0 : Int32)) (Sum.elim (fun (v13 : Unit) => zb (1 : Int32)) (Sum.elim (fun (v14 : Unit) => zb (0 : Int32)) (fun (v15 : Unit) => zb (0 : Int32))))
set_option maxHeartbeats 4000000 in
set_option maxRecDepth 100000 in
theorem SX9_canStillBe {l : Launch} {K : KK} {n : Nat} {hn : 270 ≤ n} (a0 : Nat) (p1 : Int32) (p2 : Int32) (h0 : ob a0 9) : CT l K n 3 mX9_canStillBe [.ref (K.2.1 + a0), .int p1, .int p2] enZ (FX9_canStillBe a0 p1 p2) := by
  refine CT.of2 (lv2 := [(0, .ref (K.2.1 + a0)), (1, .int p1), (2, .int p2)]) (by decide) rfl hn (Nat.le_of_ble_eq_true rfl) rfl (rp_id ?_)
  unfold FX9_canStillBe
  refine rp_iconst (0 : Int32) dX9_canStillBe_0 (by decide) ?_
  refine rp_istore_n [(3, .int (0 : Int32)), (0, .ref (K.2.1 + a0)), (1, .int p1), (2, .int p2)] dX9_canStillBe_1 (by decide) rfl ?_
  refine rp_as ?_
  refine rp_join3 98 (fun v13 => []) (fun _ => []) 43 (fun v14 => []) (fun _ => []) 90 (fun v15 => []) (fun _ => []) (fun v13 => ?_) (fun v14 => ?_) (fun v15 => ?_) (fun hX2_0 hX2_1 hX2_2 => ?_)
  · refine rp_iconst (1 : Int32) dX9_canStillBe_98 (by decide) ?_
    exact rp_zretb rfl dX9_canStillBe_99
  · refine rp_iconst (0 : Int32) dX9_canStillBe_43 (by decide) ?_
    exact rp_zretb rfl dX9_canStillBe_44
  · refine rp_iconst (0 : Int32) dX9_canStillBe_90 (by decide) ?_
    exact rp_zretb rfl dX9_canStillBe_91
  refine rp_sub [1, 2, 3, 0] rfl (rp_it (fun (s1 : Int32) => [(0, .ref (K.2.1 + a0)), (1, .int p1), (2, .int p2), (3, .int s1)]) (fun N2 ih2 s1 => ?_) FU (0 : Int32))
  refine rp_iload_n 3 dX9_canStillBe_2 rfl ?_
  refine rp_aload_n 0 dX9_canStillBe_3 rfl ?_
  refine rp_getR fi_X9_21 h0 rfl dX9_canStillBe_4 ?_
  refine rp_getR fi_X9_44 (tX9_2 h0) rfl dX9_canStillBe_7 ?_
  refine rp_getI fi_X9_48 (tX4_0 (tX9_2 h0)) rfl dX9_canStillBe_10 (fun x2 => ?_)
  refine rp_icmp_ge 98 dX9_canStillBe_13 (by decide) ?_ ?_
  · exact rp_sub [] rfl (rp_puRL (hX2_0 ()))
  · refine rp_aload_n 0 dX9_canStillBe_16 rfl ?_
    refine rp_getR fi_X9_11 h0 rfl dX9_canStillBe_17 ?_
    refine rp_iload_n 3 dX9_canStillBe_20 rfl ?_
    refine rp_iald (tX9_0 h0) dX9_canStillBe_21 (fun x3 => ?_)
    refine rp_istore [(4, .int x3), (0, .ref (K.2.1 + a0)), (1, .int p1), (2, .int p2), (3, .int s1)] dX9_canStillBe_22 (by decide) rfl ?_
    refine rp_iload 0 dX9_canStillBe_24 rfl ?_
    refine rp_iconst (-1 : Int32) dX9_canStillBe_26 (by decide) ?_
    refine rp_jn2 45 (fun (v6 : Unit) => [(0, .ref (K.2.1 + a0)), (1, .int p1), (2, .int p2), (3, .int s1), (4, .int x3)]) (fun v6 => []) (fun v6 => ?_) (fun hK45 => ?_)
    · refine rp_iload 4 dX9_canStillBe_45 rfl ?_
      refine rp_if_lt 92 dX9_canStillBe_47 (by decide) ?_ ?_
      · refine rp_iinc (fun y7 => [(3, .int y7), (0, .ref (K.2.1 + a0)), (1, .int p1), (2, .int p2), (4, .int x3)]) 3 dX9_canStillBe_92 rfl (by rfl) (by decide) (fun y7 => rfl) (fun y7 => ?_)
        refine rp_goto 2 dX9_canStillBe_95 (by decide) ?_
        exact rp_sub [1, 2, 3, 0] rfl (ih2 y7)
      · refine rp_aload_n 0 dX9_canStillBe_50 rfl ?_
        refine rp_getR fi_X9_21 h0 rfl dX9_canStillBe_51 ?_
        refine rp_iload_n 3 dX9_canStillBe_54 rfl ?_
        refine rp_iconst (0 : Int32) dX9_canStillBe_55 (by decide) ?_
        refine rp_callVv [.int s1, .int (0 : Int32)] (SX4_countKinds (hn := hn) (rf a0 2) s1 (0 : Int32) (tX9_2 h0)) cvX4_countKinds (mw (i := 1039) (by decide +kernel)) (by omega) (tX9_2 h0) (by decide) rfl rfl rfl (Nat.le_of_ble_eq_true rfl) dX9_canStillBe_56 (fun x8 => ?_)
        refine rp_aload_n 0 dX9_canStillBe_59 rfl ?_
        refine rp_iload 4 dX9_canStillBe_60 rfl ?_
        refine rp_aload_n 0 dX9_canStillBe_62 rfl ?_
        refine rp_getR fi_X9_21 h0 rfl dX9_canStillBe_63 ?_
        refine rp_getR fi_X9_102 (tX9_2 h0) rfl dX9_canStillBe_66 ?_
        refine rp_iload 4 dX9_canStillBe_69 rfl ?_
        refine rp_iald (tX4_4 (tX9_2 h0)) dX9_canStillBe_71 (fun x9 => ?_)
        refine rp_iload_n 2 dX9_canStillBe_72 rfl ?_
        refine rp_aload_n 0 dX9_canStillBe_73 rfl ?_
        refine rp_iload 4 dX9_canStillBe_74 rfl ?_
        refine rp_iload_n 1 dX9_canStillBe_76 rfl ?_
        refine rp_callVi [.int x3, .int p1] (SX9_leftOf (hn := hn) a0 x3 p1 h0) cvX9_leftOf (mw (i := 1040) (by decide +kernel)) (by omega) h0 (by decide) rfl rfl rfl (Nat.le_of_ble_eq_true rfl) dX9_canStillBe_77 (fun x10 => ?_)
        refine rp_mmin (mw (i := 1045) (by decide +kernel)) (by omega) (Nat.le_of_ble_eq_true rfl) dX9_canStillBe_80 ?_
        refine rp_iadd dX9_canStillBe_83 ?_
        refine rp_callVz [.int x3, .int (x9 + ((if x10 < p2 then x10 else p2)))] (SX9_wins (hn := hn) a0 x3 (x9 + ((if x10 < p2 then x10 else p2))) h0) cvX9_wins (mw (i := 1046) (by decide +kernel)) (by omega) h0 (by decide) rfl rfl rfl (Nat.le_of_ble_eq_true rfl) dX9_canStillBe_84 (fun x11 => ?_)
        refine rp_if_ne 92 dX9_canStillBe_87 (by decide) ?_ ?_
        · refine rp_iinc (fun y12 => [(3, .int y12), (0, .ref (K.2.1 + a0)), (1, .int p1), (2, .int p2), (4, .int x3)]) 3 dX9_canStillBe_92 rfl (by rfl) (by decide) (fun y12 => rfl) (fun y12 => ?_)
          refine rp_goto 2 dX9_canStillBe_95 (by decide) ?_
          exact rp_sub [1, 2, 3, 0] rfl (ih2 y12)
        · exact rp_sub [] rfl (rp_puRRR (hX2_2 ()))
    refine rp_icmp_ne 45 dX9_canStillBe_27 (by decide) ?_ ?_
    · exact rp_sub [1, 2, 3, 4, 0] rfl (hK45 ())
    · refine rp_aload_n 1 dX9_canStillBe_30 rfl ?_
      refine rp_getR fi_X9_21 h0 rfl dX9_canStillBe_31 ?_
      refine rp_iload_n 4 dX9_canStillBe_34 rfl ?_
      refine rp_iconst (0 : Int32) dX9_canStillBe_35 (by decide) ?_
      refine rp_callVi [.int s1, .int (0 : Int32)] (SX4_weather (hn := hn) (rf a0 2) s1 (0 : Int32) (tX9_2 h0)) cvX4_weather (mw (i := 1038) (by decide +kernel)) (by omega) (tX9_2 h0) (by decide) rfl rfl rfl (Nat.le_of_ble_eq_true rfl) dX9_canStillBe_36 (fun x5 => ?_)
      refine rp_iconst (-1 : Int32) dX9_canStillBe_39 (by decide) ?_
      refine rp_icmp_eq 45 dX9_canStillBe_40 (by decide) ?_ ?_
      · exact rp_sub [1, 2, 3, 4, 0] rfl (hK45 ())
      · exact rp_sub [] rfl (rp_puRRL (hX2_1 ()))

theorem dX9_search_0 : decode cX9_search 0 = .ok (.aload_n 0, 1) := by decide +kernel
theorem dX9_search_1 : decode cX9_search 1 = .ok (.iload_n 1, 1) := by decide +kernel
theorem dX9_search_2 : decode cX9_search 2 = .ok (.iload_n 2, 1) := by decide +kernel
theorem dX9_search_3 : decode cX9_search 3 = .ok (.invokevirtual 57, 3) := by decide +kernel
theorem dX9_search_6 : decode cX9_search 6 = .ok (.ifCond .ne 5, 3) := by decide +kernel
theorem dX9_search_9 : decode cX9_search 9 = .ok (.iconst 0, 1) := by decide +kernel
theorem dX9_search_10 : decode cX9_search 10 = .ok (.ireturn, 1) := by decide +kernel
theorem dX9_search_11 : decode cX9_search 11 = .ok (.iload_n 2, 1) := by decide +kernel
theorem dX9_search_12 : decode cX9_search 12 = .ok (.ifCond .ne 10, 3) := by decide +kernel
theorem dX9_search_15 : decode cX9_search 15 = .ok (.aload_n 0, 1) := by decide +kernel
theorem dX9_search_16 : decode cX9_search 16 = .ok (.iload_n 1, 1) := by decide +kernel
theorem dX9_search_17 : decode cX9_search 17 = .ok (.invokevirtual 60, 3) := by decide +kernel
theorem dX9_search_20 : decode cX9_search 20 = .ok (.iconst 1, 1) := by decide +kernel
theorem dX9_search_21 : decode cX9_search 21 = .ok (.ireturn, 1) := by decide +kernel
theorem dX9_search_22 : decode cX9_search 22 = .ok (.iload_n 1, 1) := by decide +kernel
theorem dX9_search_23 : decode cX9_search 23 = .ok (.aload_n 0, 1) := by decide +kernel
theorem dX9_search_24 : decode cX9_search 24 = .ok (.getfield 21, 3) := by decide +kernel
theorem dX9_search_27 : decode cX9_search 27 = .ok (.getfield 44, 3) := by decide +kernel
theorem dX9_search_30 : decode cX9_search 30 = .ok (.getfield 64, 3) := by decide +kernel
theorem dX9_search_33 : decode cX9_search 33 = .ok (.if_icmp .lt 5, 3) := by decide +kernel
theorem dX9_search_36 : decode cX9_search 36 = .ok (.iconst 0, 1) := by decide +kernel
theorem dX9_search_37 : decode cX9_search 37 = .ok (.ireturn, 1) := by decide +kernel
theorem dX9_search_38 : decode cX9_search 38 = .ok (.aload_n 0, 1) := by decide +kernel
theorem dX9_search_39 : decode cX9_search 39 = .ok (.getfield 18, 3) := by decide +kernel
theorem dX9_search_42 : decode cX9_search 42 = .ok (.aload_n 0, 1) := by decide +kernel
theorem dX9_search_43 : decode cX9_search 43 = .ok (.getfield 21, 3) := by decide +kernel
theorem dX9_search_46 : decode cX9_search 46 = .ok (.getfield 44, 3) := by decide +kernel
theorem dX9_search_49 : decode cX9_search 49 = .ok (.getfield 67, 3) := by decide +kernel
theorem dX9_search_52 : decode cX9_search 52 = .ok (.iload_n 1, 1) := by decide +kernel
theorem dX9_search_53 : decode cX9_search 53 = .ok (.iaload, 1) := by decide +kernel
theorem dX9_search_54 : decode cX9_search 54 = .ok (.iaload, 1) := by decide +kernel
theorem dX9_search_55 : decode cX9_search 55 = .ok (.istore_n 3, 1) := by decide +kernel
theorem dX9_search_56 : decode cX9_search 56 = .ok (.aload_n 0, 1) := by decide +kernel
theorem dX9_search_57 : decode cX9_search 57 = .ok (.iload_n 1, 1) := by decide +kernel
theorem dX9_search_58 : decode cX9_search 58 = .ok (.invokevirtual 70, 3) := by decide +kernel
theorem dX9_search_61 : decode cX9_search 61 = .ok (.istore 4, 2) := by decide +kernel
theorem dX9_search_63 : decode cX9_search 63 = .ok (.iload 4, 2) := by decide +kernel
theorem dX9_search_65 : decode cX9_search 65 = .ok (.aload_n 0, 1) := by decide +kernel
theorem dX9_search_66 : decode cX9_search 66 = .ok (.getfield 21, 3) := by decide +kernel
theorem dX9_search_69 : decode cX9_search 69 = .ok (.getfield 44, 3) := by decide +kernel
theorem dX9_search_72 : decode cX9_search 72 = .ok (.getfield 74, 3) := by decide +kernel
theorem dX9_search_75 : decode cX9_search 75 = .ok (.if_icmp .ge 77, 3) := by decide +kernel
theorem dX9_search_78 : decode cX9_search 78 = .ok (.iload_n 3, 1) := by decide +kernel
theorem dX9_search_79 : decode cX9_search 79 = .ok (.iload 4, 2) := by decide +kernel
theorem dX9_search_81 : decode cX9_search 81 = .ok (.ishr, 1) := by decide +kernel
theorem dX9_search_82 : decode cX9_search 82 = .ok (.iconst 1, 1) := by decide +kernel
theorem dX9_search_83 : decode cX9_search 83 = .ok (.iand, 1) := by decide +kernel
theorem dX9_search_84 : decode cX9_search 84 = .ok (.iconst 1, 1) := by decide +kernel
theorem dX9_search_85 : decode cX9_search 85 = .ok (.if_icmp .ne 61, 3) := by decide +kernel
theorem dX9_search_88 : decode cX9_search 88 = .ok (.aload_n 0, 1) := by decide +kernel
theorem dX9_search_89 : decode cX9_search 89 = .ok (.getfield 21, 3) := by decide +kernel
theorem dX9_search_92 : decode cX9_search 92 = .ok (.iload 4, 2) := by decide +kernel
theorem dX9_search_94 : decode cX9_search 94 = .ok (.invokevirtual 77, 3) := by decide +kernel
theorem dX9_search_97 : decode cX9_search 97 = .ok (.ifCond .le 49, 3) := by decide +kernel
theorem dX9_search_100 : decode cX9_search 100 = .ok (.aload_n 0, 1) := by decide +kernel
theorem dX9_search_101 : decode cX9_search 101 = .ok (.getfield 15, 3) := by decide +kernel
theorem dX9_search_104 : decode cX9_search 104 = .ok (.iload_n 1, 1) := by decide +kernel
theorem dX9_search_105 : decode cX9_search 105 = .ok (.iload 4, 2) := by decide +kernel
theorem dX9_search_107 : decode cX9_search 107 = .ok (.iastore, 1) := by decide +kernel
theorem dX9_search_108 : decode cX9_search 108 = .ok (.aload_n 0, 1) := by decide +kernel
theorem dX9_search_109 : decode cX9_search 109 = .ok (.getfield 21, 3) := by decide +kernel
theorem dX9_search_112 : decode cX9_search 112 = .ok (.iload_n 1, 1) := by decide +kernel
theorem dX9_search_113 : decode cX9_search 113 = .ok (.iload 4, 2) := by decide +kernel
theorem dX9_search_115 : decode cX9_search 115 = .ok (.iconst 1, 1) := by decide +kernel
theorem dX9_search_116 : decode cX9_search 116 = .ok (.invokevirtual 80, 3) := by decide +kernel
theorem dX9_search_119 : decode cX9_search 119 = .ok (.aload_n 0, 1) := by decide +kernel
theorem dX9_search_120 : decode cX9_search 120 = .ok (.iload_n 1, 1) := by decide +kernel
theorem dX9_search_121 : decode cX9_search 121 = .ok (.iconst 1, 1) := by decide +kernel
theorem dX9_search_122 : decode cX9_search 122 = .ok (.iadd, 1) := by decide +kernel
theorem dX9_search_123 : decode cX9_search 123 = .ok (.iload_n 2, 1) := by decide +kernel
theorem dX9_search_124 : decode cX9_search 124 = .ok (.iconst 1, 1) := by decide +kernel
theorem dX9_search_125 : decode cX9_search 125 = .ok (.isub, 1) := by decide +kernel
theorem dX9_search_126 : decode cX9_search 126 = .ok (.invokevirtual 40, 3) := by decide +kernel
theorem dX9_search_129 : decode cX9_search 129 = .ok (.istore 5, 2) := by decide +kernel
theorem dX9_search_131 : decode cX9_search 131 = .ok (.aload_n 0, 1) := by decide +kernel
theorem dX9_search_132 : decode cX9_search 132 = .ok (.getfield 21, 3) := by decide +kernel
theorem dX9_search_135 : decode cX9_search 135 = .ok (.iload_n 1, 1) := by decide +kernel
theorem dX9_search_136 : decode cX9_search 136 = .ok (.invokevirtual 84, 3) := by decide +kernel
theorem dX9_search_139 : decode cX9_search 139 = .ok (.iload 5, 2) := by decide +kernel
theorem dX9_search_141 : decode cX9_search 141 = .ok (.ifCond .eq 5, 3) := by decide +kernel
theorem dX9_search_144 : decode cX9_search 144 = .ok (.iconst 1, 1) := by decide +kernel
theorem dX9_search_145 : decode cX9_search 145 = .ok (.ireturn, 1) := by decide +kernel
theorem dX9_search_146 : decode cX9_search 146 = .ok (.iinc 4 1, 3) := by decide +kernel
theorem dX9_search_149 : decode cX9_search 149 = .ok (.goto (-86), 3) := by decide +kernel
theorem dX9_search_152 : decode cX9_search 152 = .ok (.aload_n 0, 1) := by decide +kernel
theorem dX9_search_153 : decode cX9_search 153 = .ok (.getfield 15, 3) := by decide +kernel
theorem dX9_search_156 : decode cX9_search 156 = .ok (.iload_n 1, 1) := by decide +kernel
theorem dX9_search_157 : decode cX9_search 157 = .ok (.iconst (-1), 1) := by decide +kernel
theorem dX9_search_158 : decode cX9_search 158 = .ok (.iastore, 1) := by decide +kernel
theorem dX9_search_159 : decode cX9_search 159 = .ok (.aload_n 0, 1) := by decide +kernel
theorem dX9_search_160 : decode cX9_search 160 = .ok (.iload_n 1, 1) := by decide +kernel
theorem dX9_search_161 : decode cX9_search 161 = .ok (.iconst 1, 1) := by decide +kernel
theorem dX9_search_162 : decode cX9_search 162 = .ok (.iadd, 1) := by decide +kernel
theorem dX9_search_163 : decode cX9_search 163 = .ok (.iload_n 2, 1) := by decide +kernel
theorem dX9_search_164 : decode cX9_search 164 = .ok (.invokevirtual 40, 3) := by decide +kernel
theorem dX9_search_167 : decode cX9_search 167 = .ok (.ireturn, 1) := by decide +kernel
noncomputable def GX9_search (self : Nat → Int32 → Int32 → PP Bool) (a0 : Nat) (p1 : Int32) (p2 : Int32) : PP Bool := bd (FX9_canStillBe a0 p1 p2) (fun x1 => if ((b2i x1)) = 0 then zb (0 : Int32) else if p2 = 0 then bd (FX9_forgetFrom a0 p1) (fun (_ : Unit) => zb (1 : Int32)) else bd (gI (rf (rf a0 2) 0) 11) (fun x2 => if p1 < x2 then bd (aI (rf (rf (rf a0 2) 0) 6) 6 p1) (fun x3 => bd (aI (rf a0 3) 4 x3) (fun x4 => bd (FX9_firstLine a0 p1) (fun x5 => bd (it (fun (s6 : Int32) => (bd (gI (rf (rf a0 2) 0) 9) (fun x7 => if x7 ≤ s6 then pu (Sum.inr (Sum.inl ())) else if ((x4 >>> (s6 &&& 31)) &&& (1 : Int32)) = (1 : Int32) then bd (FX4_freeOn (rf a0 2) s6) (fun x9 => if x9 ≤ 0 then lt (s6 + (1 : Int32)) (fun y10 => pu (Sum.inl y10)) else bd (uI (rf a0 1) 6 p1 s6) (fun (_ : Unit) => bd (FX4_putUp (rf a0 2) p1 s6 (1 : Int32)) (fun (_ : Unit) => bd (self a0 (p1 + (1 : Int32)) (p2 - (1 : Int32))) (fun x12 => lt ((b2i x12)) (fun y13 => bd (FX4_putDown (rf a0 2) p1) (fun (_ : Unit) => if y13 = 0 then lt (s6 + (1 : Int32)) (fun y15 => pu (Sum.inl y15)) else pu (Sum.inr (Sum.inr (()))))))))) else lt (s6 + (1 : Int32)) (fun y8 => pu (Sum.inl y8))) : PP ((Int32) ⊕ ((Unit) ⊕ (Unit))))) FU x5) (Sum.elim (fun (v16 : Unit) => bd (uI (rf a0 1) 6 p1 (-1 : Int32)) (fun (_ : Unit) => bd (self a0 (p1 + (1 : Int32)) p2) (fun x17 => zb ((b2i x17))))) (fun (v18 : Unit) => zb (1 : Int32)))))) else zb (0 : Int32)))
set_option maxHeartbeats 4000000 in
set_option maxRecDepth 100000 in
theorem SGX9_search {l : Launch} {K : KK} {n : Nat} {dp : Nat} {self : Nat → Int32 → Int32 → PP Bool} {hn : 270 ≤ n} (hs : ∀ (a0 : Nat) (p1 : Int32) (p2 : Int32), ob a0 9 → CT l K n dp mX9_search [.ref (K.2.1 + a0), .int p1, .int p2] enZ (self a0 p1 p2)) (a0 : Nat) (p1 : Int32) (p2 : Int32) (h0 : ob a0 9) : CT l K n (dp + 4) mX9_search [.ref (K.2.1 + a0), .int p1, .int p2] enZ (GX9_search self a0 p1 p2) := by
  refine CT.of2 (lv2 := [(0, .ref (K.2.1 + a0)), (1, .int p1), (2, .int p2)]) (by decide) rfl hn (Nat.le_of_ble_eq_true rfl) rfl (rp_id ?_)
  unfold GX9_search
  refine rp_aload_n 0 dX9_search_0 rfl ?_
  refine rp_iload_n 1 dX9_search_1 rfl ?_
  refine rp_iload_n 2 dX9_search_2 rfl ?_
  refine rp_callVz [.int p1, .int p2] (SX9_canStillBe (hn := hn) a0 p1 p2 h0) cvX9_canStillBe (mw (i := 1034) (by decide +kernel)) (by omega) h0 (by decide) rfl rfl rfl (Nat.le_of_ble_eq_true rfl) dX9_search_3 (fun x1 => ?_)
  refine rp_if_ne 11 dX9_search_6 (by decide) ?_ ?_
  · refine rp_iload_n 2 dX9_search_11 rfl ?_
    refine rp_if_ne 22 dX9_search_12 (by decide) ?_ ?_
    · refine rp_iload_n 1 dX9_search_22 rfl ?_
      refine rp_aload_n 0 dX9_search_23 rfl ?_
      refine rp_getR fi_X9_21 h0 rfl dX9_search_24 ?_
      refine rp_getR fi_X9_44 (tX9_2 h0) rfl dX9_search_27 ?_
      refine rp_getI fi_X9_64 (tX4_0 (tX9_2 h0)) rfl dX9_search_30 (fun x2 => ?_)
      refine rp_icmp_lt 38 dX9_search_33 (by decide) ?_ ?_
      · refine rp_aload_n 0 dX9_search_38 rfl ?_
        refine rp_getR fi_X9_18 h0 rfl dX9_search_39 ?_
        refine rp_aload_n 0 dX9_search_42 rfl ?_
        refine rp_getR fi_X9_21 h0 rfl dX9_search_43 ?_
        refine rp_getR fi_X9_44 (tX9_2 h0) rfl dX9_search_46 ?_
        refine rp_getR fi_X9_67 (tX4_0 (tX9_2 h0)) rfl dX9_search_49 ?_
        refine rp_iload_n 1 dX9_search_52 rfl ?_
        refine rp_iald (tX7_6 (tX4_0 (tX9_2 h0))) dX9_search_53 (fun x3 => ?_)
        refine rp_iald (tX9_3 h0) dX9_search_54 (fun x4 => ?_)
        refine rp_istore_n [(3, .int x4), (0, .ref (K.2.1 + a0)), (1, .int p1), (2, .int p2)] dX9_search_55 (by decide) rfl ?_
        refine rp_aload_n 1 dX9_search_56 rfl ?_
        refine rp_iload_n 2 dX9_search_57 rfl ?_
        refine rp_callVi [.int p1] (SX9_firstLine (hn := hn) a0 p1 h0) cvX9_firstLine (mw (i := 1055) (by decide +kernel)) (by omega) h0 (by decide) rfl rfl rfl (Nat.le_of_ble_eq_true rfl) dX9_search_58 (fun x5 => ?_)
        refine rp_istore [(4, .int x5), (3, .int x4), (0, .ref (K.2.1 + a0)), (1, .int p1), (2, .int p2)] dX9_search_61 (by decide) rfl ?_
        refine rp_as ?_
        refine rp_join2 152 (fun v16 => [(0, .ref (K.2.1 + a0)), (1, .int p1), (2, .int p2)]) (fun _ => []) 144 (fun v18 => []) (fun _ => []) (fun v16 => ?_) (fun v18 => ?_) (fun hX63_0 hX63_1 => ?_)
        · refine rp_aload_n 0 dX9_search_152 rfl ?_
          refine rp_getR fi_X9_15 h0 rfl dX9_search_153 ?_
          refine rp_iload_n 1 dX9_search_156 rfl ?_
          refine rp_iconst (-1 : Int32) dX9_search_157 (by decide) ?_
          refine rp_iast (tX9_1 h0) dX9_search_158 ?_
          refine rp_aload_n 0 dX9_search_159 rfl ?_
          refine rp_iload_n 1 dX9_search_160 rfl ?_
          refine rp_iconst (1 : Int32) dX9_search_161 (by decide) ?_
          refine rp_iadd dX9_search_162 ?_
          refine rp_iload_n 2 dX9_search_163 rfl ?_
          refine rp_callVz [.int (p1 + (1 : Int32)), .int p2] (hs a0 (p1 + (1 : Int32)) p2 h0) cvX9_search (mw (i := 1030) (by decide +kernel)) (by omega) h0 (by decide) rfl rfl rfl (Nat.le_of_ble_eq_true rfl) dX9_search_164 (fun x17 => ?_)
          exact rp_zretb rfl dX9_search_167
        · refine rp_iconst (1 : Int32) dX9_search_144 (by decide) ?_
          exact rp_zretb rfl dX9_search_145
        refine rp_sub [2, 3, 4, 1, 0] rfl (rp_it (fun (s6 : Int32) => [(0, .ref (K.2.1 + a0)), (1, .int p1), (2, .int p2), (3, .int x4), (4, .int s6)]) (fun N63 ih63 s6 => ?_) FU x5)
        refine rp_iload 4 dX9_search_63 rfl ?_
        refine rp_aload_n 0 dX9_search_65 rfl ?_
        refine rp_getR fi_X9_21 h0 rfl dX9_search_66 ?_
        refine rp_getR fi_X9_44 (tX9_2 h0) rfl dX9_search_69 ?_
        refine rp_getI fi_X9_74 (tX4_0 (tX9_2 h0)) rfl dX9_search_72 (fun x7 => ?_)
        refine rp_icmp_ge 152 dX9_search_75 (by decide) ?_ ?_
        · exact rp_sub [0, 1, 2] rfl (rp_puRL (hX63_0 ()))
        · refine rp_iload_n 3 dX9_search_78 rfl ?_
          refine rp_iload 4 dX9_search_79 rfl ?_
          refine rp_ishr dX9_search_81 ?_
          refine rp_iconst (1 : Int32) dX9_search_82 (by decide) ?_
          refine rp_iand dX9_search_83 ?_
          refine rp_iconst (1 : Int32) dX9_search_84 (by decide) ?_
          refine rp_icmp_ne 146 dX9_search_85 (by decide) ?_ ?_
          · refine rp_iinc (fun y8 => [(4, .int y8), (0, .ref (K.2.1 + a0)), (1, .int p1), (2, .int p2), (3, .int x4)]) 4 dX9_search_146 rfl (by rfl) (by decide) (fun y8 => rfl) (fun y8 => ?_)
            refine rp_goto 63 dX9_search_149 (by decide) ?_
            exact rp_sub [1, 2, 3, 4, 0] rfl (ih63 y8)
          · refine rp_aload_n 0 dX9_search_88 rfl ?_
            refine rp_getR fi_X9_21 h0 rfl dX9_search_89 ?_
            refine rp_iload 4 dX9_search_92 rfl ?_
            refine rp_callVi [.int s6] (SX4_freeOn (hn := hn) (rf a0 2) s6 (tX9_2 h0)) cvX4_freeOn (mw (i := 1059) (by decide +kernel)) (by omega) (tX9_2 h0) (by decide) rfl rfl rfl (Nat.le_of_ble_eq_true rfl) dX9_search_94 (fun x9 => ?_)
            refine rp_if_le 146 dX9_search_97 (by decide) ?_ ?_
            · refine rp_iinc (fun y10 => [(4, .int y10), (0, .ref (K.2.1 + a0)), (1, .int p1), (2, .int p2), (3, .int x4)]) 4 dX9_search_146 rfl (by rfl) (by decide) (fun y10 => rfl) (fun y10 => ?_)
              refine rp_goto 63 dX9_search_149 (by decide) ?_
              exact rp_sub [1, 2, 3, 4, 0] rfl (ih63 y10)
            · refine rp_aload_n 0 dX9_search_100 rfl ?_
              refine rp_getR fi_X9_15 h0 rfl dX9_search_101 ?_
              refine rp_iload_n 1 dX9_search_104 rfl ?_
              refine rp_iload 4 dX9_search_105 rfl ?_
              refine rp_iast (tX9_1 h0) dX9_search_107 ?_
              refine rp_aload_n 0 dX9_search_108 rfl ?_
              refine rp_getR fi_X9_21 h0 rfl dX9_search_109 ?_
              refine rp_iload_n 1 dX9_search_112 rfl ?_
              refine rp_iload 4 dX9_search_113 rfl ?_
              refine rp_iconst (1 : Int32) dX9_search_115 (by decide) ?_
              refine rp_callVv [.int p1, .int s6, .int (1 : Int32)] (SX4_putUp (hn := hn) (rf a0 2) p1 s6 (1 : Int32) (tX9_2 h0)) cvX4_putUp (mw (i := 1060) (by decide +kernel)) (by omega) (tX9_2 h0) (by decide) rfl rfl rfl (Nat.le_of_ble_eq_true rfl) dX9_search_116 (fun x11 => ?_)
              refine rp_aload_n 0 dX9_search_119 rfl ?_
              refine rp_iload_n 1 dX9_search_120 rfl ?_
              refine rp_iconst (1 : Int32) dX9_search_121 (by decide) ?_
              refine rp_iadd dX9_search_122 ?_
              refine rp_iload_n 2 dX9_search_123 rfl ?_
              refine rp_iconst (1 : Int32) dX9_search_124 (by decide) ?_
              refine rp_isub dX9_search_125 ?_
              refine rp_callVz [.int (p1 + (1 : Int32)), .int (p2 - (1 : Int32))] (hs a0 (p1 + (1 : Int32)) (p2 - (1 : Int32)) h0) cvX9_search (mw (i := 1030) (by decide +kernel)) (by omega) h0 (by decide) rfl rfl rfl (Nat.le_of_ble_eq_true rfl) dX9_search_126 (fun x12 => ?_)
              refine rp_lti (fun y13 => ?_)
              refine rp_istore [(5, .int y13), (0, .ref (K.2.1 + a0)), (1, .int p1), (2, .int p2), (3, .int x4), (4, .int s6)] dX9_search_129 (by decide) rfl ?_
              refine rp_aload_n 1 dX9_search_131 rfl ?_
              refine rp_getR fi_X9_21 h0 rfl dX9_search_132 ?_
              refine rp_iload_n 2 dX9_search_135 rfl ?_
              refine rp_callVv [.int p1] (SX4_putDown (hn := hn) (rf a0 2) p1 (tX9_2 h0)) cvX4_putDown (mw (i := 1061) (by decide +kernel)) (by omega) (tX9_2 h0) (by decide) rfl rfl rfl (Nat.le_of_ble_eq_true rfl) dX9_search_136 (fun x14 => ?_)
              refine rp_iload 0 dX9_search_139 rfl ?_
              refine rp_if_eq 146 dX9_search_141 (by decide) ?_ ?_
              · refine rp_iinc (fun y15 => [(4, .int y15), (5, .int y13), (0, .ref (K.2.1 + a0)), (1, .int p1), (2, .int p2), (3, .int x4)]) 5 dX9_search_146 rfl (by rfl) (by decide) (fun y15 => rfl) (fun y15 => ?_)
                refine rp_goto 63 dX9_search_149 (by decide) ?_
                exact rp_sub [2, 3, 4, 5, 0] rfl (ih63 y15)
              · exact rp_sub [] rfl (rp_puRR (hX63_1 ()))
      · refine rp_iconst (0 : Int32) dX9_search_36 (by decide) ?_
        exact rp_zretb rfl dX9_search_37
    · refine rp_aload_n 0 dX9_search_15 rfl ?_
      refine rp_iload_n 1 dX9_search_16 rfl ?_
      refine rp_callVv [.int p1] (SX9_forgetFrom (hn := hn) a0 p1 h0) cvX9_forgetFrom (mw (i := 1051) (by decide +kernel)) (by omega) h0 (by decide) rfl rfl rfl (Nat.le_of_ble_eq_true rfl) dX9_search_17 (fun x19 => ?_)
      refine rp_iconst (1 : Int32) dX9_search_20 (by decide) ?_
      exact rp_zretb rfl dX9_search_21
  · refine rp_iconst (0 : Int32) dX9_search_9 (by decide) ?_
    exact rp_zretb rfl dX9_search_10
noncomputable def FX9_search : Nat → Nat → Int32 → Int32 → PP Bool
  | 0, _, _, _ => fl
  | k + 1, a0, p1, p2 => GX9_search (FX9_search k) a0 p1 p2
theorem SX9_search {l : Launch} {K : KK} {n : Nat} {hn : 270 ≤ n} : ∀ (k : Nat) (a0 : Nat) (p1 : Int32) (p2 : Int32) (h0 : ob a0 9), CT l K n (4 * k) mX9_search [.ref (K.2.1 + a0), .int p1, .int p2] enZ (FX9_search k a0 p1 p2)
  | 0, _, _, _, _ => fun σ r σ' q => by cases q
  | k + 1, a0, p1, p2, h0 => SGX9_search (hn := hn) (dp := 4 * k) (fun z0 z1 z2 z3 => SX9_search (hn := hn) k z0 z1 z2 z3) a0 p1 p2 h0
