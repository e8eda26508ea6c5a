theorem dX8_readPlace_0 : decode cX8_readPlace 0 = .ok (.aload_n 0, 1) := by decide +kernel
theorem dX8_readPlace_1 : decode cX8_readPlace 1 = .ok (.aload_n 0, 1) := by decide +kernel
theorem dX8_readPlace_2 : decode cX8_readPlace 2 = .ok (.getfield 12, 3) := by decide +kernel
theorem dX8_readPlace_5 : decode cX8_readPlace 5 = .ok (.getfield 130, 3) := by decide +kernel
theorem dX8_readPlace_8 : decode cX8_readPlace 8 = .ok (.iconst 4, 1) := by decide +kernel
theorem dX8_readPlace_9 : decode cX8_readPlace 9 = .ok (.if_icmp .lt 7, 3) := by decide +kernel
theorem dX8_readPlace_12 : decode cX8_readPlace 12 = .ok (.iconst 1, 1) := by decide +kernel
theorem dX8_readPlace_13 : decode cX8_readPlace 13 = .ok (.goto 4, 3) := by decide +kernel
theorem dX8_readPlace_16 : decode cX8_readPlace 16 = .ok (.iconst 0, 1) := by decide +kernel
theorem dX8_readPlace_17 : decode cX8_readPlace 17 = .ok (.invokevirtual 100, 3) := by decide +kernel
theorem dX8_readPlace_20 : decode cX8_readPlace 20 = .ok (.aload_n 0, 1) := by decide +kernel
theorem dX8_readPlace_21 : decode cX8_readPlace 21 = .ok (.invokevirtual 104, 3) := by decide +kernel
theorem dX8_readPlace_24 : decode cX8_readPlace 24 = .ok (.lstore_n 1, 1) := by decide +kernel
theorem dX8_readPlace_25 : decode cX8_readPlace 25 = .ok (.aload_n 0, 1) := by decide +kernel
theorem dX8_readPlace_26 : decode cX8_readPlace 26 = .ok (.getfield 18, 3) := by decide +kernel
theorem dX8_readPlace_29 : decode cX8_readPlace 29 = .ok (.getstatic 133, 3) := by decide +kernel
theorem dX8_readPlace_32 : decode cX8_readPlace 32 = .ok (.invokevirtual 111, 3) := by decide +kernel
theorem dX8_readPlace_35 : decode cX8_readPlace 35 = .ok (.aload_n 0, 1) := by decide +kernel
theorem dX8_readPlace_36 : decode cX8_readPlace 36 = .ok (.iconst 0, 1) := by decide +kernel
theorem dX8_readPlace_37 : decode cX8_readPlace 37 = .ok (.invokevirtual 136, 3) := by decide +kernel
theorem dX8_readPlace_40 : decode cX8_readPlace 40 = .ok (.istore_n 3, 1) := by decide +kernel
theorem dX8_readPlace_41 : decode cX8_readPlace 41 = .ok (.iconst 0, 1) := by decide +kernel
theorem dX8_readPlace_42 : decode cX8_readPlace 42 = .ok (.istore 4, 2) := by decide +kernel
theorem dX8_readPlace_44 : decode cX8_readPlace 44 = .ok (.iload 4, 2) := by decide +kernel
theorem dX8_readPlace_46 : decode cX8_readPlace 46 = .ok (.iconst 5, 1) := by decide +kernel
theorem dX8_readPlace_47 : decode cX8_readPlace 47 = .ok (.if_icmp .ge 27, 3) := by decide +kernel
theorem dX8_readPlace_50 : decode cX8_readPlace 50 = .ok (.aload_n 0, 1) := by decide +kernel
theorem dX8_readPlace_51 : decode cX8_readPlace 51 = .ok (.getfield 18, 3) := by decide +kernel
theorem dX8_readPlace_54 : decode cX8_readPlace 54 = .ok (.invokevirtual 89, 3) := by decide +kernel
theorem dX8_readPlace_57 : decode cX8_readPlace 57 = .ok (.ifCond .eq 17, 3) := by decide +kernel
theorem dX8_readPlace_60 : decode cX8_readPlace 60 = .ok (.iload_n 3, 1) := by decide +kernel
theorem dX8_readPlace_61 : decode cX8_readPlace 61 = .ok (.aload_n 0, 1) := by decide +kernel
theorem dX8_readPlace_62 : decode cX8_readPlace 62 = .ok (.iload_n 3, 1) := by decide +kernel
theorem dX8_readPlace_63 : decode cX8_readPlace 63 = .ok (.invokevirtual 136, 3) := by decide +kernel
theorem dX8_readPlace_66 : decode cX8_readPlace 66 = .ok (.ior, 1) := by decide +kernel
theorem dX8_readPlace_67 : decode cX8_readPlace 67 = .ok (.istore_n 3, 1) := by decide +kernel
theorem dX8_readPlace_68 : decode cX8_readPlace 68 = .ok (.iinc 4 1, 3) := by decide +kernel
theorem dX8_readPlace_71 : decode cX8_readPlace 71 = .ok (.goto (-27), 3) := by decide +kernel
theorem dX8_readPlace_74 : decode cX8_readPlace 74 = .ok (.aload_n 0, 1) := by decide +kernel
theorem dX8_readPlace_75 : decode cX8_readPlace 75 = .ok (.getfield 18, 3) := by decide +kernel
theorem dX8_readPlace_78 : decode cX8_readPlace 78 = .ok (.bipush 59, 2) := by decide +kernel
theorem dX8_readPlace_80 : decode cX8_readPlace 80 = .ok (.invokevirtual 119, 3) := by decide +kernel
theorem dX8_readPlace_83 : decode cX8_readPlace 83 = .ok (.aload_n 0, 1) := by decide +kernel
theorem dX8_readPlace_84 : decode cX8_readPlace 84 = .ok (.getfield 18, 3) := by decide +kernel
theorem dX8_readPlace_87 : decode cX8_readPlace 87 = .ok (.getfield 123, 3) := by decide +kernel
theorem dX8_readPlace_90 : decode cX8_readPlace 90 = .ok (.ifCond .ne 12, 3) := by decide +kernel
theorem dX8_readPlace_93 : decode cX8_readPlace 93 = .ok (.aload_n 0, 1) := by decide +kernel
theorem dX8_readPlace_94 : decode cX8_readPlace 94 = .ok (.getfield 12, 3) := by decide +kernel
theorem dX8_readPlace_97 : decode cX8_readPlace 97 = .ok (.lload_n 1, 1) := by decide +kernel
theorem dX8_readPlace_98 : decode cX8_readPlace 98 = .ok (.iload_n 3, 1) := by decide +kernel
theorem dX8_readPlace_99 : decode cX8_readPlace 99 = .ok (.invokevirtual 140, 3) := by decide +kernel
theorem dX8_readPlace_102 : decode cX8_readPlace 102 = .ok (.return_, 1) := by decide +kernel
noncomputable def FX8_readPlace (a0 : Nat) : PP Unit := bd (gI (rf a0 1) 10) (fun x1 => bd (if x1 < (4 : Int32) then pu (0 : Int32) else pu (1 : Int32) : PP (Int32)) (fun (v2 : Int32) => bd (FX8_skipUnlessFull a0 v2) (fun (_ : Unit) => bd (FX8_newName a0) (fun x4 => bd (FX5_expectWord (rf a0 0) ((some (3 : Fin 23)))) (fun (_ : Unit) => bd (FX8_lineOutside a0 (0 : Int32)) (fun x6 => bd (it (fun (s7 : Int32 × Int32) => (if (5 : Int32) ≤ s7.2 then pu (Sum.inr s7.1) else bd (FX5_isName (rf a0 0)) (fun x8 => if ((b2i x8)) = 0 then pu (Sum.inr s7.1) else bd (FX8_lineOutside a0 s7.1) (fun x9 => lt (s7.1 ||| x9) (fun y10 => lt (s7.2 + (1 : Int32)) (fun y11 => pu (Sum.inl (y10, y11)))))) : PP ((Int32 × Int32) ⊕ (Int32)))) FU (x6, (0 : Int32))) (fun (v12 : Int32) => bd (FX5_expectSign (rf a0 0) (59 : Int32)) (fun (_ : Unit) => bd (gI (rf a0 0) 6) (fun x14 => bd (if x14 = 0 then bd (FX7_addPlace (rf a0 1) x4 v12) (fun (_ : Unit) => pu ()) else pu () : PP (Unit)) (fun (v16 : Unit) => pu ()))))))))))
set_option maxHeartbeats 4000000 in
set_option maxRecDepth 100000 in
theorem SX8_readPlace {l : Launch} {K : KK} {n : Nat} {hn : 270 ≤ n} (a0 : Nat) (h0 : ob a0 8) : CT l K n 9 mX8_readPlace [.ref (K.2.1 + a0)] enU (FX8_readPlace a0) := by
  refine CT.of2 (lv2 := [(0, .ref (K.2.1 + a0))]) (by decide) rfl hn (Nat.le_of_ble_eq_true rfl) rfl (rp_id ?_)
  unfold FX8_readPlace
  refine rp_aload_n 0 dX8_readPlace_0 rfl ?_
  refine rp_aload_n 0 dX8_readPlace_1 rfl ?_
  refine rp_getR fi_X8_12 h0 rfl dX8_readPlace_2 ?_
  refine rp_getI fi_X8_130 (tX8_1 h0) rfl dX8_readPlace_5 (fun x1 => ?_)
  refine rp_iconst (4 : Int32) dX8_readPlace_8 (by decide) ?_
  refine rp_as ?_
  refine rp_join 17 (fun (v2 : Int32) => [(0, .ref (K.2.1 + a0))]) (fun v2 => [.int v2, .ref (K.2.1 + a0)]) (fun v2 => ?_) (fun hJ17 => ?_)
  · refine rp_callVv [.int v2] (SX8_skipUnlessFull (hn := hn) a0 v2 h0) cvX8_skipUnlessFull (mw (i := 584) (by decide +kernel)) (by omega) h0 (by decide) rfl rfl rfl (Nat.le_of_ble_eq_true rfl) dX8_readPlace_17 (fun x3 => ?_)
    refine rp_aload_n 0 dX8_readPlace_20 rfl ?_
    refine rp_callVl [] (SX8_newName (hn := hn) a0 h0) cvX8_newName (mw (i := 593) (by decide +kernel)) (by omega) h0 (by decide) rfl rfl rfl (Nat.le_of_ble_eq_true rfl) dX8_readPlace_21 (fun x4 => ?_)
    refine rp_lstore_n [(1, .long x4), (0, .ref (K.2.1 + a0))] dX8_readPlace_24 (by decide) rfl ?_
    refine rp_aload_n 1 dX8_readPlace_25 rfl ?_
    refine rp_getR fi_X8_18 h0 rfl dX8_readPlace_26 ?_
    refine rp_getWord (3 : Fin 23) (mw (i := 633) (by decide +kernel)) dX8_readPlace_29 ?_
    refine rp_callVv [wr K ((some (3 : Fin 23)))] (SX5_expectWord (hn := hn) (rf a0 0) ((some (3 : Fin 23))) (tX8_0 h0)) cvX5_expectWord (mw (i := 610) (by decide +kernel)) (by omega) (tX8_0 h0) (by decide) rfl rfl rfl (Nat.le_of_ble_eq_true rfl) dX8_readPlace_32 (fun x5 => ?_)
    refine rp_aload_n 1 dX8_readPlace_35 rfl ?_
    refine rp_iconst (0 : Int32) dX8_readPlace_36 (by decide) ?_
    refine rp_callVi [.int (0 : Int32)] (SX8_lineOutside (hn := hn) a0 (0 : Int32) h0) cvX8_lineOutside (mw (i := 635) (by decide +kernel)) (by omega) h0 (by decide) rfl rfl rfl (Nat.le_of_ble_eq_true rfl) dX8_readPlace_37 (fun x6 => ?_)
    refine rp_istore_n [(3, .int x6), (1, .long x4), (0, .ref (K.2.1 + a0))] dX8_readPlace_40 (by decide) rfl ?_
    refine rp_iconst (0 : Int32) dX8_readPlace_41 (by decide) ?_
    refine rp_istore [(4, .int (0 : Int32)), (3, .int x6), (1, .long x4), (0, .ref (K.2.1 + a0))] dX8_readPlace_42 (by decide) rfl ?_
    refine rp_as ?_
    refine rp_join 74 (fun v12 => [(0, .ref (K.2.1 + a0)), (1, .long x4), (3, .int v12)]) (fun _ => []) (fun v12 => ?_) (fun hX44_0 => ?_)
    · refine rp_aload_n 0 dX8_readPlace_74 rfl ?_
      refine rp_getR fi_X8_18 h0 rfl dX8_readPlace_75 ?_
      refine rp_bipush (59 : Int32) dX8_readPlace_78 (by decide) ?_
      refine rp_callVv [.int (59 : Int32)] (SX5_expectSign (hn := hn) (rf a0 0) (59 : Int32) (tX8_0 h0)) cvX5_expectSign (mw (i := 619) (by decide +kernel)) (by omega) (tX8_0 h0) (by decide) rfl rfl rfl (Nat.le_of_ble_eq_true rfl) dX8_readPlace_80 (fun x13 => ?_)
      refine rp_aload_n 0 dX8_readPlace_83 rfl ?_
      refine rp_getR fi_X8_18 h0 rfl dX8_readPlace_84 ?_
      refine rp_getI fi_X8_123 (tX8_0 h0) rfl dX8_readPlace_87 (fun x14 => ?_)
      refine rp_as ?_
      refine rp_join 102 (fun (v16 : Unit) => []) (fun v16 => []) (fun v16 => ?_) (fun hJ102 => ?_)
      · exact rp_pu (rp_vret rfl dX8_readPlace_102)
      refine rp_if_ne 102 dX8_readPlace_90 (by decide) ?_ ?_
      · exact rp_sub [] rfl (rp_pu (hJ102 ()))
      · refine rp_aload_n 0 dX8_readPlace_93 rfl ?_
        refine rp_getR fi_X8_12 h0 rfl dX8_readPlace_94 ?_
        refine rp_lload_n 1 dX8_readPlace_97 rfl ?_
        refine rp_iload_n 2 dX8_readPlace_98 rfl ?_
        refine rp_callVv [.long x4, .int v12] (SX7_addPlace (hn := hn) (rf a0 1) x4 v12 (tX8_1 h0)) cvX7_addPlace (mw (i := 645) (by decide +kernel)) (by omega) (tX8_1 h0) (by decide) rfl rfl rfl (Nat.le_of_ble_eq_true rfl) dX8_readPlace_99 (fun x15 => ?_)
        exact rp_sub [] rfl (rp_pu (hJ102 ()))
    refine rp_sub [3, 2, 1, 0] rfl (rp_it (fun (s7 : Int32 × Int32) => [(0, .ref (K.2.1 + a0)), (1, .long x4), (3, .int s7.1), (4, .int s7.2)]) (fun N44 ih44 s7 => ?_) FU (x6, (0 : Int32)))
    refine rp_iload 3 dX8_readPlace_44 rfl ?_
    refine rp_iconst (5 : Int32) dX8_readPlace_46 (by decide) ?_
    refine rp_icmp_ge 74 dX8_readPlace_47 (by decide) ?_ ?_
    · exact rp_sub [0, 1, 2] rfl (rp_puR (hX44_0 s7.1))
    · refine rp_aload_n 0 dX8_readPlace_50 rfl ?_
      refine rp_getR fi_X8_18 h0 rfl dX8_readPlace_51 ?_
      refine rp_callVz [] (SX5_isName (hn := hn) (rf a0 0) (tX8_0 h0)) cvX5_isName (mw (i := 597) (by decide +kernel)) (by omega) (tX8_0 h0) (by decide) rfl rfl rfl (Nat.le_of_ble_eq_true rfl) dX8_readPlace_54 (fun x8 => ?_)
      refine rp_if_eq 74 dX8_readPlace_57 (by decide) ?_ ?_
      · exact rp_sub [0, 1, 2] rfl (rp_puR (hX44_0 s7.1))
      · refine rp_iload_n 2 dX8_readPlace_60 rfl ?_
        refine rp_aload_n 0 dX8_readPlace_61 rfl ?_
        refine rp_iload_n 2 dX8_readPlace_62 rfl ?_
        refine rp_callVi [.int s7.1] (SX8_lineOutside (hn := hn) a0 s7.1 h0) cvX8_lineOutside (mw (i := 635) (by decide +kernel)) (by omega) h0 (by decide) rfl rfl rfl (Nat.le_of_ble_eq_true rfl) dX8_readPlace_63 (fun x9 => ?_)
        refine rp_ior dX8_readPlace_66 ?_
        refine rp_lti (fun y10 => ?_)
        refine rp_istore_n [(3, .int y10), (0, .ref (K.2.1 + a0)), (1, .long x4), (4, .int s7.2)] dX8_readPlace_67 (by decide) rfl ?_
        refine rp_iinc (fun y11 => [(4, .int y11), (3, .int y10), (0, .ref (K.2.1 + a0)), (1, .long x4)]) 3 dX8_readPlace_68 rfl (by rfl) (by decide) (fun y11 => rfl) (fun y11 => ?_)
        refine rp_goto 44 dX8_readPlace_71 (by decide) ?_
        exact rp_sub [2, 3, 1, 0] rfl (ih44 (y10, y11))
  refine rp_icmp_lt 16 dX8_readPlace_9 (by decide) ?_ ?_
  · refine rp_iconst (0 : Int32) dX8_readPlace_16 (by decide) ?_
    exact rp_sub [0] rfl (rp_pu (hJ17 (0 : Int32)))
  · refine rp_iconst (1 : Int32) dX8_readPlace_12 (by decide) ?_
    refine rp_goto 17 dX8_readPlace_13 (by decide) ?_
    exact rp_sub [0] rfl (rp_pu (hJ17 (1 : Int32)))

theorem dX8_readCloth_0 : decode cX8_readCloth 0 = .ok (.aload_n 0, 1) := by decide +kernel
theorem dX8_readCloth_1 : decode cX8_readCloth 1 = .ok (.aload_n 0, 1) := by decide +kernel
theorem dX8_readCloth_2 : decode cX8_readCloth 2 = .ok (.getfield 12, 3) := by decide +kernel
theorem dX8_readCloth_5 : decode cX8_readCloth 5 = .ok (.getfield 151, 3) := by decide +kernel
theorem dX8_readCloth_8 : decode cX8_readCloth 8 = .ok (.bipush 6, 2) := by decide +kernel
theorem dX8_readCloth_10 : decode cX8_readCloth 10 = .ok (.if_icmp .lt 7, 3) := by decide +kernel
theorem dX8_readCloth_13 : decode cX8_readCloth 13 = .ok (.iconst 1, 1) := by decide +kernel
theorem dX8_readCloth_14 : decode cX8_readCloth 14 = .ok (.goto 4, 3) := by decide +kernel
theorem dX8_readCloth_17 : decode cX8_readCloth 17 = .ok (.iconst 0, 1) := by decide +kernel
theorem dX8_readCloth_18 : decode cX8_readCloth 18 = .ok (.invokevirtual 100, 3) := by decide +kernel
theorem dX8_readCloth_21 : decode cX8_readCloth 21 = .ok (.aload_n 0, 1) := by decide +kernel
theorem dX8_readCloth_22 : decode cX8_readCloth 22 = .ok (.invokevirtual 104, 3) := by decide +kernel
theorem dX8_readCloth_25 : decode cX8_readCloth 25 = .ok (.lstore_n 1, 1) := by decide +kernel
theorem dX8_readCloth_26 : decode cX8_readCloth 26 = .ok (.aload_n 0, 1) := by decide +kernel
theorem dX8_readCloth_27 : decode cX8_readCloth 27 = .ok (.getfield 18, 3) := by decide +kernel
theorem dX8_readCloth_30 : decode cX8_readCloth 30 = .ok (.getfield 38, 3) := by decide +kernel
theorem dX8_readCloth_33 : decode cX8_readCloth 33 = .ok (.astore_n 3, 1) := by decide +kernel
theorem dX8_readCloth_34 : decode cX8_readCloth 34 = .ok (.aload_n 3, 1) := by decide +kernel
theorem dX8_readCloth_35 : decode cX8_readCloth 35 = .ok (.ifnull 11, 3) := by decide +kernel
theorem dX8_readCloth_38 : decode cX8_readCloth 38 = .ok (.aload_n 3, 1) := by decide +kernel
theorem dX8_readCloth_39 : decode cX8_readCloth 39 = .ok (.getfield 154, 3) := by decide +kernel
theorem dX8_readCloth_42 : decode cX8_readCloth 42 = .ok (.iconst 1, 1) := by decide +kernel
theorem dX8_readCloth_43 : decode cX8_readCloth 43 = .ok (.if_icmp .eq 12, 3) := by decide +kernel
theorem dX8_readCloth_46 : decode cX8_readCloth 46 = .ok (.aload_n 0, 1) := by decide +kernel
theorem dX8_readCloth_47 : decode cX8_readCloth 47 = .ok (.getfield 18, 3) := by decide +kernel
theorem dX8_readCloth_50 : decode cX8_readCloth 50 = .ok (.iconst 1, 1) := by decide +kernel
theorem dX8_readCloth_51 : decode cX8_readCloth 51 = .ok (.invokevirtual 74, 3) := by decide +kernel
theorem dX8_readCloth_54 : decode cX8_readCloth 54 = .ok (.return_, 1) := by decide +kernel
theorem dX8_readCloth_55 : decode cX8_readCloth 55 = .ok (.aload_n 0, 1) := by decide +kernel
theorem dX8_readCloth_56 : decode cX8_readCloth 56 = .ok (.getfield 18, 3) := by decide +kernel
theorem dX8_readCloth_59 : decode cX8_readCloth 59 = .ok (.invokevirtual 82, 3) := by decide +kernel
theorem dX8_readCloth_62 : decode cX8_readCloth 62 = .ok (.aload_n 0, 1) := by decide +kernel
theorem dX8_readCloth_63 : decode cX8_readCloth 63 = .ok (.getfield 18, 3) := by decide +kernel
theorem dX8_readCloth_66 : decode cX8_readCloth 66 = .ok (.getstatic 157, 3) := by decide +kernel
theorem dX8_readCloth_69 : decode cX8_readCloth 69 = .ok (.invokevirtual 111, 3) := by decide +kernel
theorem dX8_readCloth_72 : decode cX8_readCloth 72 = .ok (.aload_n 0, 1) := by decide +kernel
theorem dX8_readCloth_73 : decode cX8_readCloth 73 = .ok (.getfield 18, 3) := by decide +kernel
theorem dX8_readCloth_76 : decode cX8_readCloth 76 = .ok (.iconst 1, 1) := by decide +kernel
theorem dX8_readCloth_77 : decode cX8_readCloth 77 = .ok (.bipush 20, 2) := by decide +kernel
theorem dX8_readCloth_79 : decode cX8_readCloth 79 = .ok (.invokevirtual 115, 3) := by decide +kernel
theorem dX8_readCloth_82 : decode cX8_readCloth 82 = .ok (.istore 4, 2) := by decide +kernel
theorem dX8_readCloth_84 : decode cX8_readCloth 84 = .ok (.aload_n 0, 1) := by decide +kernel
theorem dX8_readCloth_85 : decode cX8_readCloth 85 = .ok (.getfield 18, 3) := by decide +kernel
theorem dX8_readCloth_88 : decode cX8_readCloth 88 = .ok (.bipush 59, 2) := by decide +kernel
theorem dX8_readCloth_90 : decode cX8_readCloth 90 = .ok (.invokevirtual 119, 3) := by decide +kernel
theorem dX8_readCloth_93 : decode cX8_readCloth 93 = .ok (.aload_n 0, 1) := by decide +kernel
theorem dX8_readCloth_94 : decode cX8_readCloth 94 = .ok (.getfield 18, 3) := by decide +kernel
theorem dX8_readCloth_97 : decode cX8_readCloth 97 = .ok (.getfield 123, 3) := by decide +kernel
theorem dX8_readCloth_100 : decode cX8_readCloth 100 = .ok (.ifCond .ne 17, 3) := by decide +kernel
theorem dX8_readCloth_103 : decode cX8_readCloth 103 = .ok (.aload_n 0, 1) := by decide +kernel
theorem dX8_readCloth_104 : decode cX8_readCloth 104 = .ok (.getfield 12, 3) := by decide +kernel
theorem dX8_readCloth_107 : decode cX8_readCloth 107 = .ok (.lload_n 1, 1) := by decide +kernel
theorem dX8_readCloth_108 : decode cX8_readCloth 108 = .ok (.aload_n 3, 1) := by decide +kernel
theorem dX8_readCloth_109 : decode cX8_readCloth 109 = .ok (.getfield 160, 3) := by decide +kernel
theorem dX8_readCloth_112 : decode cX8_readCloth 112 = .ok (.iload 4, 2) := by decide +kernel
theorem dX8_readCloth_114 : decode cX8_readCloth 114 = .ok (.invokevirtual 163, 3) := by decide +kernel
theorem dX8_readCloth_117 : decode cX8_readCloth 117 = .ok (.return_, 1) := by decide +kernel
noncomputable def FX8_readCloth (a0 : Nat) : PP Unit := bd (gI (rf a0 1) 11) (fun x1 => bd (if x1 < (6 : Int32) then pu (0 : Int32) else pu (1 : Int32) : PP (Int32)) (fun (v2 : Int32) => bd (FX8_skipUnlessFull a0 v2) (fun (_ : Unit) => bd (FX8_newName a0) (fun x4 => bd (gW) (fun x5 => if x5 = none then bd (FX5_fail (rf a0 0) (1 : Int32)) (fun (_ : Unit) => pu ()) else bd (nn x5) (fun x7 => if ((wgr.getD x7.val 0)) = (1 : Int32) then bd (FX5_advance (rf a0 0)) (fun (_ : Unit) => bd (FX5_expectWord (rf a0 0) ((some (5 : Fin 23)))) (fun (_ : Unit) => bd (FX5_expectNumber (rf a0 0) (1 : Int32) (20 : Int32)) (fun x11 => bd (FX5_expectSign (rf a0 0) (59 : Int32)) (fun (_ : Unit) => bd (gI (rf a0 0) 6) (fun x13 => bd (if x13 = 0 then bd (nn x5) (fun x14 => bd (FX7_addCloth (rf a0 1) x4 ((wva.getD x14.val 0)) x11) (fun (_ : Unit) => pu ())) else pu () : PP (Unit)) (fun (v17 : Unit) => pu ())))))) else bd (FX5_fail (rf a0 0) (1 : Int32)) (fun (_ : Unit) => pu ())))))))
set_option maxHeartbeats 4000000 in
set_option maxRecDepth 100000 in
theorem SX8_readCloth {l : Launch} {K : KK} {n : Nat} {hn : 270 ≤ n} (a0 : Nat) (h0 : ob a0 8) : CT l K n 9 mX8_readCloth [.ref (K.2.1 + a0)] enU (FX8_readCloth a0) := by
  refine CT.of2 (lv2 := [(0, .ref (K.2.1 + a0))]) (by decide) rfl hn (Nat.le_of_ble_eq_true rfl) rfl (rp_id ?_)
  unfold FX8_readCloth
  refine rp_aload_n 0 dX8_readCloth_0 rfl ?_
  refine rp_aload_n 0 dX8_readCloth_1 rfl ?_
  refine rp_getR fi_X8_12 h0 rfl dX8_readCloth_2 ?_
  refine rp_getI fi_X8_151 (tX8_1 h0) rfl dX8_readCloth_5 (fun x1 => ?_)
  refine rp_bipush (6 : Int32) dX8_readCloth_8 (by decide) ?_
  refine rp_as ?_
  refine rp_join 18 (fun (v2 : Int32) => [(0, .ref (K.2.1 + a0))]) (fun v2 => [.int v2, .ref (K.2.1 + a0)]) (fun v2 => ?_) (fun hJ18 => ?_)
  · refine rp_callVv [.int v2] (SX8_skipUnlessFull (hn := hn) a0 v2 h0) cvX8_skipUnlessFull (mw (i := 584) (by decide +kernel)) (by omega) h0 (by decide) rfl rfl rfl (Nat.le_of_ble_eq_true rfl) dX8_readCloth_18 (fun x3 => ?_)
    refine rp_aload_n 0 dX8_readCloth_21 rfl ?_
    refine rp_callVl [] (SX8_newName (hn := hn) a0 h0) cvX8_newName (mw (i := 593) (by decide +kernel)) (by omega) h0 (by decide) rfl rfl rfl (Nat.le_of_ble_eq_true rfl) dX8_readCloth_22 (fun x4 => ?_)
    refine rp_lstore_n [(1, .long x4), (0, .ref (K.2.1 + a0))] dX8_readCloth_25 (by decide) rfl ?_
    refine rp_aload_n 1 dX8_readCloth_26 rfl ?_
    refine rp_getR fi_X8_18 h0 rfl dX8_readCloth_27 ?_
    refine rp_getW fi_X8_38 (tX8_0 h0) rfl dX8_readCloth_30 (fun x5 => ?_)
    refine rp_wstore_n [(3, wr K x5), (1, .long x4), (0, .ref (K.2.1 + a0))] dX8_readCloth_33 (by decide) rfl ?_
    refine rp_wload_n 0 dX8_readCloth_34 rfl ?_
    refine rp_ifnull 46 dX8_readCloth_35 (by decide) ?_ ?_
    · refine rp_aload_n 2 dX8_readCloth_46 rfl ?_
      refine rp_getR fi_X8_18 h0 rfl dX8_readCloth_47 ?_
      refine rp_iconst (1 : Int32) dX8_readCloth_50 (by decide) ?_
      refine rp_callVv [.int (1 : Int32)] (SX5_fail (hn := hn) (rf a0 0) (1 : Int32) (tX8_0 h0)) cvX5_fail (mw (i := 588) (by decide +kernel)) (by omega) (tX8_0 h0) (by decide) rfl rfl rfl (Nat.le_of_ble_eq_true rfl) dX8_readCloth_51 (fun x6 => ?_)
      exact rp_pu (rp_vret rfl dX8_readCloth_54)
    · refine rp_wload_n 0 dX8_readCloth_38 rfl ?_
      refine rp_getGg (mw (i := 1855) (by decide +kernel)) dX8_readCloth_39 (fun x7 => ?_)
      refine rp_iconst (1 : Int32) dX8_readCloth_42 (by decide) ?_
      refine rp_icmp_eq 55 dX8_readCloth_43 (by decide) ?_ ?_
      · refine rp_aload_n 2 dX8_readCloth_55 rfl ?_
        refine rp_getR fi_X8_18 h0 rfl dX8_readCloth_56 ?_
        refine rp_callVv [] (SX5_advance (hn := hn) (rf a0 0) (tX8_0 h0)) cvX5_advance (mw (i := 592) (by decide +kernel)) (by omega) (tX8_0 h0) (by decide) rfl rfl rfl (Nat.le_of_ble_eq_true rfl) dX8_readCloth_59 (fun x9 => ?_)
        refine rp_aload_n 2 dX8_readCloth_62 rfl ?_
        refine rp_getR fi_X8_18 h0 rfl dX8_readCloth_63 ?_
        refine rp_getWord (5 : Fin 23) (mw (i := 655) (by decide +kernel)) dX8_readCloth_66 ?_
        refine rp_callVv [wr K ((some (5 : Fin 23)))] (SX5_expectWord (hn := hn) (rf a0 0) ((some (5 : Fin 23))) (tX8_0 h0)) cvX5_expectWord (mw (i := 610) (by decide +kernel)) (by omega) (tX8_0 h0) (by decide) rfl rfl rfl (Nat.le_of_ble_eq_true rfl) dX8_readCloth_69 (fun x10 => ?_)
        refine rp_aload_n 2 dX8_readCloth_72 rfl ?_
        refine rp_getR fi_X8_18 h0 rfl dX8_readCloth_73 ?_
        refine rp_iconst (1 : Int32) dX8_readCloth_76 (by decide) ?_
        refine rp_bipush (20 : Int32) dX8_readCloth_77 (by decide) ?_
        refine rp_callVi [.int (1 : Int32), .int (20 : Int32)] (SX5_expectNumber (hn := hn) (rf a0 0) (1 : Int32) (20 : Int32) (tX8_0 h0)) cvX5_expectNumber (mw (i := 615) (by decide +kernel)) (by omega) (tX8_0 h0) (by decide) rfl rfl rfl (Nat.le_of_ble_eq_true rfl) dX8_readCloth_79 (fun x11 => ?_)
        refine rp_istore [(4, .int x11), (3, wr K x5), (1, .long x4), (0, .ref (K.2.1 + a0))] dX8_readCloth_82 (by decide) (by cases x5 <;> rfl) ?_
        refine rp_aload_n 3 dX8_readCloth_84 rfl ?_
        refine rp_getR fi_X8_18 h0 rfl dX8_readCloth_85 ?_
        refine rp_bipush (59 : Int32) dX8_readCloth_88 (by decide) ?_
        refine rp_callVv [.int (59 : Int32)] (SX5_expectSign (hn := hn) (rf a0 0) (59 : Int32) (tX8_0 h0)) cvX5_expectSign (mw (i := 619) (by decide +kernel)) (by omega) (tX8_0 h0) (by decide) rfl rfl rfl (Nat.le_of_ble_eq_true rfl) dX8_readCloth_90 (fun x12 => ?_)
        refine rp_aload_n 3 dX8_readCloth_93 rfl ?_
        refine rp_getR fi_X8_18 h0 rfl dX8_readCloth_94 ?_
        refine rp_getI fi_X8_123 (tX8_0 h0) rfl dX8_readCloth_97 (fun x13 => ?_)
        refine rp_as ?_
        refine rp_join 117 (fun (v17 : Unit) => []) (fun v17 => []) (fun v17 => ?_) (fun hJ117 => ?_)
        · exact rp_pu (rp_vret rfl dX8_readCloth_117)
        refine rp_if_ne 117 dX8_readCloth_100 (by decide) ?_ ?_
        · exact rp_sub [] rfl (rp_pu (hJ117 ()))
        · refine rp_aload_n 3 dX8_readCloth_103 rfl ?_
          refine rp_getR fi_X8_12 h0 rfl dX8_readCloth_104 ?_
          refine rp_lload_n 2 dX8_readCloth_107 rfl ?_
          refine rp_wload_n 1 dX8_readCloth_108 rfl ?_
          refine rp_getGv (mw (i := 1856) (by decide +kernel)) dX8_readCloth_109 (fun x14 => ?_)
          refine rp_iload 0 dX8_readCloth_112 rfl ?_
          refine rp_callVv [.long x4, .int ((wva.getD x14.val 0)), .int x11] (SX7_addCloth (hn := hn) (rf a0 1) x4 ((wva.getD x14.val 0)) x11 (tX8_1 h0)) cvX7_addCloth (mw (i := 657) (by decide +kernel)) (by omega) (tX8_1 h0) (by decide) rfl rfl rfl (Nat.le_of_ble_eq_true rfl) dX8_readCloth_114 (fun x16 => ?_)
          exact rp_sub [] rfl (rp_pu (hJ117 ()))
      · refine rp_aload_n 2 dX8_readCloth_46 rfl ?_
        refine rp_getR fi_X8_18 h0 rfl dX8_readCloth_47 ?_
        refine rp_iconst (1 : Int32) dX8_readCloth_50 (by decide) ?_
        refine rp_callVv [.int (1 : Int32)] (SX5_fail (hn := hn) (rf a0 0) (1 : Int32) (tX8_0 h0)) cvX5_fail (mw (i := 588) (by decide +kernel)) (by omega) (tX8_0 h0) (by decide) rfl rfl rfl (Nat.le_of_ble_eq_true rfl) dX8_readCloth_51 (fun x18 => ?_)
        exact rp_pu (rp_vret rfl dX8_readCloth_54)
  refine rp_icmp_lt 17 dX8_readCloth_10 (by decide) ?_ ?_
  · refine rp_iconst (0 : Int32) dX8_readCloth_17 (by decide) ?_
    exact rp_sub [0] rfl (rp_pu (hJ18 (0 : Int32)))
  · refine rp_iconst (1 : Int32) dX8_readCloth_13 (by decide) ?_
    refine rp_goto 18 dX8_readCloth_14 (by decide) ?_
    exact rp_sub [0] rfl (rp_pu (hJ18 (1 : Int32)))

theorem dX8_readCrossing_0 : decode cX8_readCrossing 0 = .ok (.aload_n 0, 1) := by decide +kernel
theorem dX8_readCrossing_1 : decode cX8_readCrossing 1 = .ok (.getfield 18, 3) := by decide +kernel
theorem dX8_readCrossing_4 : decode cX8_readCrossing 4 = .ok (.invokevirtual 82, 3) := by decide +kernel
theorem dX8_readCrossing_7 : decode cX8_readCrossing 7 = .ok (.aload_n 0, 1) := by decide +kernel
theorem dX8_readCrossing_8 : decode cX8_readCrossing 8 = .ok (.getfield 18, 3) := by decide +kernel
theorem dX8_readCrossing_11 : decode cX8_readCrossing 11 = .ok (.aload_n 0, 1) := by decide +kernel
theorem dX8_readCrossing_12 : decode cX8_readCrossing 12 = .ok (.getfield 12, 3) := by decide +kernel
theorem dX8_readCrossing_15 : decode cX8_readCrossing 15 = .ok (.getfield 143, 3) := by decide +kernel
theorem dX8_readCrossing_18 : decode cX8_readCrossing 18 = .ok (.aload_n 0, 1) := by decide +kernel
theorem dX8_readCrossing_19 : decode cX8_readCrossing 19 = .ok (.getfield 12, 3) := by decide +kernel
theorem dX8_readCrossing_22 : decode cX8_readCrossing 22 = .ok (.getfield 97, 3) := by decide +kernel
theorem dX8_readCrossing_25 : decode cX8_readCrossing 25 = .ok (.invokevirtual 147, 3) := by decide +kernel
theorem dX8_readCrossing_28 : decode cX8_readCrossing 28 = .ok (.istore_n 1, 1) := by decide +kernel
theorem dX8_readCrossing_29 : decode cX8_readCrossing 29 = .ok (.aload_n 0, 1) := by decide +kernel
theorem dX8_readCrossing_30 : decode cX8_readCrossing 30 = .ok (.getfield 12, 3) := by decide +kernel
theorem dX8_readCrossing_33 : decode cX8_readCrossing 33 = .ok (.iload_n 1, 1) := by decide +kernel
theorem dX8_readCrossing_34 : decode cX8_readCrossing 34 = .ok (.invokevirtual 167, 3) := by decide +kernel
theorem dX8_readCrossing_37 : decode cX8_readCrossing 37 = .ok (.ifCond .ne 4, 3) := by decide +kernel
theorem dX8_readCrossing_40 : decode cX8_readCrossing 40 = .ok (.return_, 1) := by decide +kernel
theorem dX8_readCrossing_41 : decode cX8_readCrossing 41 = .ok (.aload_n 0, 1) := by decide +kernel
theorem dX8_readCrossing_42 : decode cX8_readCrossing 42 = .ok (.getfield 18, 3) := by decide +kernel
theorem dX8_readCrossing_45 : decode cX8_readCrossing 45 = .ok (.invokevirtual 82, 3) := by decide +kernel
theorem dX8_readCrossing_48 : decode cX8_readCrossing 48 = .ok (.aload_n 0, 1) := by decide +kernel
theorem dX8_readCrossing_49 : decode cX8_readCrossing 49 = .ok (.aload_n 0, 1) := by decide +kernel
theorem dX8_readCrossing_50 : decode cX8_readCrossing 50 = .ok (.getfield 12, 3) := by decide +kernel
theorem dX8_readCrossing_53 : decode cX8_readCrossing 53 = .ok (.getfield 171, 3) := by decide +kernel
theorem dX8_readCrossing_56 : decode cX8_readCrossing 56 = .ok (.iload_n 1, 1) := by decide +kernel
theorem dX8_readCrossing_57 : decode cX8_readCrossing 57 = .ok (.iaload, 1) := by decide +kernel
theorem dX8_readCrossing_58 : decode cX8_readCrossing 58 = .ok (.iconst 1, 1) := by decide +kernel
theorem dX8_readCrossing_59 : decode cX8_readCrossing 59 = .ok (.iload_n 1, 1) := by decide +kernel
theorem dX8_readCrossing_60 : decode cX8_readCrossing 60 = .ok (.ishl, 1) := by decide +kernel
theorem dX8_readCrossing_61 : decode cX8_readCrossing 61 = .ok (.ior, 1) := by decide +kernel
theorem dX8_readCrossing_62 : decode cX8_readCrossing 62 = .ok (.invokevirtual 136, 3) := by decide +kernel
theorem dX8_readCrossing_65 : decode cX8_readCrossing 65 = .ok (.istore_n 2, 1) := by decide +kernel
theorem dX8_readCrossing_66 : decode cX8_readCrossing 66 = .ok (.aload_n 0, 1) := by decide +kernel
theorem dX8_readCrossing_67 : decode cX8_readCrossing 67 = .ok (.getfield 18, 3) := by decide +kernel
theorem dX8_readCrossing_70 : decode cX8_readCrossing 70 = .ok (.bipush 59, 2) := by decide +kernel
theorem dX8_readCrossing_72 : decode cX8_readCrossing 72 = .ok (.invokevirtual 119, 3) := by decide +kernel
theorem dX8_readCrossing_75 : decode cX8_readCrossing 75 = .ok (.aload_n 0, 1) := by decide +kernel
theorem dX8_readCrossing_76 : decode cX8_readCrossing 76 = .ok (.getfield 18, 3) := by decide +kernel
theorem dX8_readCrossing_79 : decode cX8_readCrossing 79 = .ok (.getfield 123, 3) := by decide +kernel
theorem dX8_readCrossing_82 : decode cX8_readCrossing 82 = .ok (.ifCond .ne 15, 3) := by decide +kernel
theorem dX8_readCrossing_85 : decode cX8_readCrossing 85 = .ok (.aload_n 0, 1) := by decide +kernel
theorem dX8_readCrossing_86 : decode cX8_readCrossing 86 = .ok (.getfield 12, 3) := by decide +kernel
theorem dX8_readCrossing_89 : decode cX8_readCrossing 89 = .ok (.iload_n 1, 1) := by decide +kernel
theorem dX8_readCrossing_90 : decode cX8_readCrossing 90 = .ok (.iload_n 2, 1) := by decide +kernel
theorem dX8_readCrossing_91 : decode cX8_readCrossing 91 = .ok (.invokestatic 175, 3) := by decide +kernel
theorem dX8_readCrossing_94 : decode cX8_readCrossing 94 = .ok (.invokevirtual 180, 3) := by decide +kernel
theorem dX8_readCrossing_97 : decode cX8_readCrossing 97 = .ok (.return_, 1) := by decide +kernel
noncomputable def FX8_readCrossing (a0 : Nat) : PP Unit := bd (FX5_advance (rf a0 0)) (fun (_ : Unit) => bd (gI (rf a0 1) 9) (fun x2 => bd (FX5_findName (rf a0 0) (rf (rf a0 1) 0) x2 5) (fun x3 => bd (FX7_hasLine (rf a0 1) x3) (fun x4 => if ((b2i x4)) = 0 then pu () else bd (FX5_advance (rf a0 0)) (fun (_ : Unit) => bd (aI (rf (rf a0 1) 4) 5 x3) (fun x6 => bd (FX8_lineOutside a0 (x6 ||| ((1 : Int32) <<< (x3 &&& 31)))) (fun x7 => bd (FX5_expectSign (rf a0 0) (59 : Int32)) (fun (_ : Unit) => bd (gI (rf a0 0) 6) (fun x9 => bd (if x9 = 0 then bd (FJ6_numberOfTrailingZeros_0f7a4 x7) (fun x10 => bd (FX7_addCrossing (rf a0 1) x3 x10) (fun (_ : Unit) => pu ())) else pu () : PP (Unit)) (fun (v12 : Unit) => pu ()))))))))))
set_option maxHeartbeats 4000000 in
set_option maxRecDepth 100000 in
theorem SX8_readCrossing {l : Launch} {K : KK} {n : Nat} {hn : 270 ≤ n} (a0 : Nat) (h0 : ob a0 8) : CT l K n 9 mX8_readCrossing [.ref (K.2.1 + a0)] enU (FX8_readCrossing a0) := by
  refine CT.of2 (lv2 := [(0, .ref (K.2.1 + a0))]) (by decide) rfl hn (Nat.le_of_ble_eq_true rfl) rfl (rp_id ?_)
  unfold FX8_readCrossing
  refine rp_aload_n 0 dX8_readCrossing_0 rfl ?_
  refine rp_getR fi_X8_18 h0 rfl dX8_readCrossing_1 ?_
  refine rp_callVv [] (SX5_advance (hn := hn) (rf a0 0) (tX8_0 h0)) cvX5_advance (mw (i := 592) (by decide +kernel)) (by omega) (tX8_0 h0) (by decide) rfl rfl rfl (Nat.le_of_ble_eq_true rfl) dX8_readCrossing_4 (fun x1 => ?_)
  refine rp_aload_n 0 dX8_readCrossing_7 rfl ?_
  refine rp_getR fi_X8_18 h0 rfl dX8_readCrossing_8 ?_
  refine rp_aload_n 0 dX8_readCrossing_11 rfl ?_
  refine rp_getR fi_X8_12 h0 rfl dX8_readCrossing_12 ?_
  refine rp_getR fi_X8_143 (tX8_1 h0) rfl dX8_readCrossing_15 ?_
  refine rp_aload_n 0 dX8_readCrossing_18 rfl ?_
  refine rp_getR fi_X8_12 h0 rfl dX8_readCrossing_19 ?_
  refine rp_getI fi_X8_97 (tX8_1 h0) rfl dX8_readCrossing_22 (fun x2 => ?_)
  refine rp_callVi [.ref (K.2.1 + (rf (rf a0 1) 0)), .int x2] (SX5_findName (hn := hn) (rf a0 0) (rf (rf a0 1) 0) x2 5 (tX8_0 h0) (tX7_0 (tX8_1 h0))) cvX5_findName (mw (i := 639) (by decide +kernel)) (by omega) (tX8_0 h0) (by decide) rfl rfl rfl (Nat.le_of_ble_eq_true rfl) dX8_readCrossing_25 (fun x3 => ?_)
  refine rp_istore_n [(1, .int x3), (0, .ref (K.2.1 + a0))] dX8_readCrossing_28 (by decide) rfl ?_
  refine rp_aload_n 1 dX8_readCrossing_29 rfl ?_
  refine rp_getR fi_X8_12 h0 rfl dX8_readCrossing_30 ?_
  refine rp_iload_n 0 dX8_readCrossing_33 rfl ?_
  refine rp_callVz [.int x3] (SX7_hasLine (hn := hn) (rf a0 1) x3 (tX8_1 h0)) cvX7_hasLine (mw (i := 667) (by decide +kernel)) (by omega) (tX8_1 h0) (by decide) rfl rfl rfl (Nat.le_of_ble_eq_true rfl) dX8_readCrossing_34 (fun x4 => ?_)
  refine rp_if_ne 41 dX8_readCrossing_37 (by decide) ?_ ?_
  · refine rp_aload_n 1 dX8_readCrossing_41 rfl ?_
    refine rp_getR fi_X8_18 h0 rfl dX8_readCrossing_42 ?_
    refine rp_callVv [] (SX5_advance (hn := hn) (rf a0 0) (tX8_0 h0)) cvX5_advance (mw (i := 592) (by decide +kernel)) (by omega) (tX8_0 h0) (by decide) rfl rfl rfl (Nat.le_of_ble_eq_true rfl) dX8_readCrossing_45 (fun x5 => ?_)
    refine rp_aload_n 1 dX8_readCrossing_48 rfl ?_
    refine rp_aload_n 1 dX8_readCrossing_49 rfl ?_
    refine rp_getR fi_X8_12 h0 rfl dX8_readCrossing_50 ?_
    refine rp_getR fi_X8_171 (tX8_1 h0) rfl dX8_readCrossing_53 ?_
    refine rp_iload_n 0 dX8_readCrossing_56 rfl ?_
    refine rp_iald (tX7_4 (tX8_1 h0)) dX8_readCrossing_57 (fun x6 => ?_)
    refine rp_iconst (1 : Int32) dX8_readCrossing_58 (by decide) ?_
    refine rp_iload_n 0 dX8_readCrossing_59 rfl ?_
    refine rp_ishl dX8_readCrossing_60 ?_
    refine rp_ior dX8_readCrossing_61 ?_
    refine rp_callVi [.int (x6 ||| ((1 : Int32) <<< (x3 &&& 31)))] (SX8_lineOutside (hn := hn) a0 (x6 ||| ((1 : Int32) <<< (x3 &&& 31))) h0) cvX8_lineOutside (mw (i := 635) (by decide +kernel)) (by omega) h0 (by decide) rfl rfl rfl (Nat.le_of_ble_eq_true rfl) dX8_readCrossing_62 (fun x7 => ?_)
    refine rp_istore_n [(2, .int x7), (1, .int x3), (0, .ref (K.2.1 + a0))] dX8_readCrossing_65 (by decide) rfl ?_
    refine rp_aload_n 2 dX8_readCrossing_66 rfl ?_
    refine rp_getR fi_X8_18 h0 rfl dX8_readCrossing_67 ?_
    refine rp_bipush (59 : Int32) dX8_readCrossing_70 (by decide) ?_
    refine rp_callVv [.int (59 : Int32)] (SX5_expectSign (hn := hn) (rf a0 0) (59 : Int32) (tX8_0 h0)) cvX5_expectSign (mw (i := 619) (by decide +kernel)) (by omega) (tX8_0 h0) (by decide) rfl rfl rfl (Nat.le_of_ble_eq_true rfl) dX8_readCrossing_72 (fun x8 => ?_)
    refine rp_aload_n 2 dX8_readCrossing_75 rfl ?_
    refine rp_getR fi_X8_18 h0 rfl dX8_readCrossing_76 ?_
    refine rp_getI fi_X8_123 (tX8_0 h0) rfl dX8_readCrossing_79 (fun x9 => ?_)
    refine rp_as ?_
    refine rp_join 97 (fun (v12 : Unit) => []) (fun v12 => []) (fun v12 => ?_) (fun hJ97 => ?_)
    · exact rp_pu (rp_vret rfl dX8_readCrossing_97)
    refine rp_if_ne 97 dX8_readCrossing_82 (by decide) ?_ ?_
    · exact rp_sub [] rfl (rp_pu (hJ97 ()))
    · refine rp_aload_n 2 dX8_readCrossing_85 rfl ?_
      refine rp_getR fi_X8_12 h0 rfl dX8_readCrossing_86 ?_
      refine rp_iload_n 1 dX8_readCrossing_89 rfl ?_
      refine rp_iload_n 0 dX8_readCrossing_90 rfl ?_
      refine rp_callSi [.int x7] (SJ6_numberOfTrailingZeros_0f7a4 (hn := hn) x7) csJ6_numberOfTrailingZeros_0f7a4 (mw (i := 671) (by decide +kernel)) (by omega) rfl rfl (Nat.le_of_ble_eq_true rfl) dX8_readCrossing_91 (fun x10 => ?_)
      refine rp_callVv [.int x3, .int x10] (SX7_addCrossing (hn := hn) (rf a0 1) x3 x10 (tX8_1 h0)) cvX7_addCrossing (mw (i := 675) (by decide +kernel)) (by omega) (tX8_1 h0) (by decide) rfl rfl rfl (Nat.le_of_ble_eq_true rfl) dX8_readCrossing_94 (fun x11 => ?_)
      exact rp_sub [] rfl (rp_pu (hJ97 ()))
  · exact rp_pu (rp_vret rfl dX8_readCrossing_40)

theorem dX8_readLaw_0 : decode cX8_readLaw 0 = .ok (.aload_n 0, 1) := by decide +kernel
theorem dX8_readLaw_1 : decode cX8_readLaw 1 = .ok (.getfield 25, 3) := by decide +kernel
theorem dX8_readLaw_4 : decode cX8_readLaw 4 = .ok (.ifCond .eq 12, 3) := by decide +kernel
theorem dX8_readLaw_7 : decode cX8_readLaw 7 = .ok (.aload_n 0, 1) := by decide +kernel
theorem dX8_readLaw_8 : decode cX8_readLaw 8 = .ok (.getfield 18, 3) := by decide +kernel
theorem dX8_readLaw_11 : decode cX8_readLaw 11 = .ok (.iconst 3, 1) := by decide +kernel
theorem dX8_readLaw_12 : decode cX8_readLaw 12 = .ok (.invokevirtual 74, 3) := by decide +kernel
theorem dX8_readLaw_15 : decode cX8_readLaw 15 = .ok (.return_, 1) := by decide +kernel
theorem dX8_readLaw_16 : decode cX8_readLaw 16 = .ok (.aload_n 0, 1) := by decide +kernel
theorem dX8_readLaw_17 : decode cX8_readLaw 17 = .ok (.iconst 1, 1) := by decide +kernel
theorem dX8_readLaw_18 : decode cX8_readLaw 18 = .ok (.putfield 25, 3) := by decide +kernel
theorem dX8_readLaw_21 : decode cX8_readLaw 21 = .ok (.aload_n 0, 1) := by decide +kernel
theorem dX8_readLaw_22 : decode cX8_readLaw 22 = .ok (.getfield 18, 3) := by decide +kernel
theorem dX8_readLaw_25 : decode cX8_readLaw 25 = .ok (.invokevirtual 82, 3) := by decide +kernel
theorem dX8_readLaw_28 : decode cX8_readLaw 28 = .ok (.aload_n 0, 1) := by decide +kernel
theorem dX8_readLaw_29 : decode cX8_readLaw 29 = .ok (.getfield 12, 3) := by decide +kernel
theorem dX8_readLaw_32 : decode cX8_readLaw 32 = .ok (.getfield 184, 3) := by decide +kernel
theorem dX8_readLaw_35 : decode cX8_readLaw 35 = .ok (.iconst 0, 1) := by decide +kernel
theorem dX8_readLaw_36 : decode cX8_readLaw 36 = .ok (.putfield 188, 3) := by decide +kernel
theorem dX8_readLaw_39 : decode cX8_readLaw 39 = .ok (.aload_n 0, 1) := by decide +kernel
theorem dX8_readLaw_40 : decode cX8_readLaw 40 = .ok (.getfield 12, 3) := by decide +kernel
theorem dX8_readLaw_43 : decode cX8_readLaw 43 = .ok (.getfield 184, 3) := by decide +kernel
theorem dX8_readLaw_46 : decode cX8_readLaw 46 = .ok (.aload_n 0, 1) := by decide +kernel
theorem dX8_readLaw_47 : decode cX8_readLaw 47 = .ok (.getfield 18, 3) := by decide +kernel
theorem dX8_readLaw_50 : decode cX8_readLaw 50 = .ok (.iconst 0, 1) := by decide +kernel
theorem dX8_readLaw_51 : decode cX8_readLaw 51 = .ok (.invokevirtual 193, 3) := by decide +kernel
theorem dX8_readLaw_54 : decode cX8_readLaw 54 = .ok (.aload_n 0, 1) := by decide +kernel
theorem dX8_readLaw_55 : decode cX8_readLaw 55 = .ok (.getfield 18, 3) := by decide +kernel
theorem dX8_readLaw_58 : decode cX8_readLaw 58 = .ok (.bipush 59, 2) := by decide +kernel
theorem dX8_readLaw_60 : decode cX8_readLaw 60 = .ok (.invokevirtual 119, 3) := by decide +kernel
theorem dX8_readLaw_63 : decode cX8_readLaw 63 = .ok (.return_, 1) := by decide +kernel
noncomputable def FX8_readLaw (a0 : Nat) : PP Unit := bd (gI a0 2) (fun x1 => if x1 = 0 then bd (sI a0 2 (1 : Int32)) (fun (_ : Unit) => bd (FX5_advance (rf a0 0)) (fun (_ : Unit) => bd (sI (rf (rf a0 1) 8) 2 (0 : Int32)) (fun (_ : Unit) => bd (FX0_readWhole (FX0_readPart 10) (rf (rf a0 1) 8) (rf a0 0) (0 : Int32)) (fun (_ : Unit) => bd (FX5_expectSign (rf a0 0) (59 : Int32)) (fun (_ : Unit) => pu ()))))) else bd (FX5_fail (rf a0 0) (3 : Int32)) (fun (_ : Unit) => pu ()))
set_option maxHeartbeats 4000000 in
set_option maxRecDepth 100000 in
theorem SX8_readLaw {l : Launch} {K : KK} {n : Nat} {hn : 270 ≤ n} (a0 : Nat) (h0 : ob a0 8) : CT l K n 132 mX8_readLaw [.ref (K.2.1 + a0)] enU (FX8_readLaw a0) := by
  refine CT.of2 (lv2 := [(0, .ref (K.2.1 + a0))]) (by decide) rfl hn (Nat.le_of_ble_eq_true rfl) rfl (rp_id ?_)
  unfold FX8_readLaw
  refine rp_aload_n 0 dX8_readLaw_0 rfl ?_
  refine rp_getI fi_X8_25 h0 rfl dX8_readLaw_1 (fun x1 => ?_)
  refine rp_if_eq 16 dX8_readLaw_4 (by decide) ?_ ?_
  · refine rp_aload_n 0 dX8_readLaw_16 rfl ?_
    refine rp_iconst (1 : Int32) dX8_readLaw_17 (by decide) ?_
    refine rp_putZ (by decide) fi_X8_25 fp_X8_2 h0 rfl dX8_readLaw_18 ?_
    refine rp_aload_n 0 dX8_readLaw_21 rfl ?_
    refine rp_getR fi_X8_18 h0 rfl dX8_readLaw_22 ?_
    refine rp_callVv [] (SX5_advance (hn := hn) (rf a0 0) (tX8_0 h0)) cvX5_advance (mw (i := 592) (by decide +kernel)) (by omega) (tX8_0 h0) (by decide) rfl rfl rfl (Nat.le_of_ble_eq_true rfl) dX8_readLaw_25 (fun x2 => ?_)
    refine rp_aload_n 0 dX8_readLaw_28 rfl ?_
    refine rp_getR fi_X8_12 h0 rfl dX8_readLaw_29 ?_
    refine rp_getR fi_X8_184 (tX8_1 h0) rfl dX8_readLaw_32 ?_
    refine rp_iconst (0 : Int32) dX8_readLaw_35 (by decide) ?_
    refine rp_putI fi_X8_188 fp_X0_2 (tX7_8 (tX8_1 h0)) rfl dX8_readLaw_36 ?_
    refine rp_aload_n 0 dX8_readLaw_39 rfl ?_
    refine rp_getR fi_X8_12 h0 rfl dX8_readLaw_40 ?_
    refine rp_getR fi_X8_184 (tX8_1 h0) rfl dX8_readLaw_43 ?_
    refine rp_aload_n 0 dX8_readLaw_46 rfl ?_
    refine rp_getR fi_X8_18 h0 rfl dX8_readLaw_47 ?_
    refine rp_iconst (0 : Int32) dX8_readLaw_50 (by decide) ?_
    refine rp_callVNv [.ref (K.2.1 + (rf a0 0)), .int (0 : Int32)] (SX0_readWhole (hn := hn) (fun z0 z1 z2 z3 z4 => SX0_readPart (hn := hn) 10 z0 z1 z2 z3 z4) (rf (rf a0 1) 8) (rf a0 0) (0 : Int32) (tX7_8 (tX8_1 h0)) (tX8_0 h0)) cvX0_readWhole (by decide +kernel) (by omega) (tX7_8 (tX8_1 h0)) (by decide) rfl rfl rfl (Nat.le_of_ble_eq_true rfl) dX8_readLaw_51 (fun x3 => ?_)
    refine rp_aload_n 0 dX8_readLaw_54 rfl ?_
    refine rp_getR fi_X8_18 h0 rfl dX8_readLaw_55 ?_
    refine rp_bipush (59 : Int32) dX8_readLaw_58 (by decide) ?_
    refine rp_callVv [.int (59 : Int32)] (SX5_expectSign (hn := hn) (rf a0 0) (59 : Int32) (tX8_0 h0)) cvX5_expectSign (mw (i := 619) (by decide +kernel)) (by omega) (tX8_0 h0) (by decide) rfl rfl rfl (Nat.le_of_ble_eq_true rfl) dX8_readLaw_60 (fun x4 => ?_)
    exact rp_pu (rp_vret rfl dX8_readLaw_63)
  · refine rp_aload_n 0 dX8_readLaw_7 rfl ?_
    refine rp_getR fi_X8_18 h0 rfl dX8_readLaw_8 ?_
    refine rp_iconst (3 : Int32) dX8_readLaw_11 (by decide) ?_
    refine rp_callVv [.int (3 : Int32)] (SX5_fail (hn := hn) (rf a0 0) (3 : Int32) (tX8_0 h0)) cvX5_fail (mw (i := 588) (by decide +kernel)) (by omega) (tX8_0 h0) (by decide) rfl rfl rfl (Nat.le_of_ble_eq_true rfl) dX8_readLaw_12 (fun x5 => ?_)
    exact rp_pu (rp_vret rfl dX8_readLaw_15)

theorem dX8_readTown_0 : decode cX8_readTown 0 = .ok (.aload_n 0, 1) := by decide +kernel
theorem dX8_readTown_1 : decode cX8_readTown 1 = .ok (.getfield 12, 3) := by decide +kernel
theorem dX8_readTown_4 : decode cX8_readTown 4 = .ok (.invokevirtual 22, 3) := by decide +kernel
theorem dX8_readTown_7 : decode cX8_readTown 7 = .ok (.aload_n 0, 1) := by decide +kernel
theorem dX8_readTown_8 : decode cX8_readTown 8 = .ok (.iconst 0, 1) := by decide +kernel
theorem dX8_readTown_9 : decode cX8_readTown 9 = .ok (.putfield 25, 3) := by decide +kernel
theorem dX8_readTown_12 : decode cX8_readTown 12 = .ok (.aload_n 0, 1) := by decide +kernel
theorem dX8_readTown_13 : decode cX8_readTown 13 = .ok (.getfield 18, 3) := by decide +kernel
theorem dX8_readTown_16 : decode cX8_readTown 16 = .ok (.invokevirtual 29, 3) := by decide +kernel
theorem dX8_readTown_19 : decode cX8_readTown 19 = .ok (.iconst 0, 1) := by decide +kernel
theorem dX8_readTown_20 : decode cX8_readTown 20 = .ok (.istore_n 1, 1) := by decide +kernel
theorem dX8_readTown_21 : decode cX8_readTown 21 = .ok (.iload_n 1, 1) := by decide +kernel
theorem dX8_readTown_22 : decode cX8_readTown 22 = .ok (.sipush 1000, 3) := by decide +kernel
theorem dX8_readTown_25 : decode cX8_readTown 25 = .ok (.if_icmp .ge 105, 3) := by decide +kernel
theorem dX8_readTown_28 : decode cX8_readTown 28 = .ok (.aload_n 0, 1) := by decide +kernel
theorem dX8_readTown_29 : decode cX8_readTown 29 = .ok (.getfield 18, 3) := by decide +kernel
theorem dX8_readTown_32 : decode cX8_readTown 32 = .ok (.getfield 34, 3) := by decide +kernel
theorem dX8_readTown_35 : decode cX8_readTown 35 = .ok (.ifCond .eq 95, 3) := by decide +kernel
theorem dX8_readTown_38 : decode cX8_readTown 38 = .ok (.aload_n 0, 1) := by decide +kernel
theorem dX8_readTown_39 : decode cX8_readTown 39 = .ok (.getfield 18, 3) := by decide +kernel
theorem dX8_readTown_42 : decode cX8_readTown 42 = .ok (.getfield 38, 3) := by decide +kernel
theorem dX8_readTown_45 : decode cX8_readTown 45 = .ok (.astore_n 2, 1) := by decide +kernel
theorem dX8_readTown_46 : decode cX8_readTown 46 = .ok (.aload_n 2, 1) := by decide +kernel
theorem dX8_readTown_47 : decode cX8_readTown 47 = .ok (.getstatic 42, 3) := by decide +kernel
theorem dX8_readTown_50 : decode cX8_readTown 50 = .ok (.if_acmp .ne 10, 3) := by decide +kernel
theorem dX8_readTown_53 : decode cX8_readTown 53 = .ok (.aload_n 0, 1) := by decide +kernel
theorem dX8_readTown_54 : decode cX8_readTown 54 = .ok (.invokevirtual 47, 3) := by decide +kernel
theorem dX8_readTown_57 : decode cX8_readTown 57 = .ok (.goto 67, 3) := by decide +kernel
theorem dX8_readTown_60 : decode cX8_readTown 60 = .ok (.aload_n 2, 1) := by decide +kernel
theorem dX8_readTown_61 : decode cX8_readTown 61 = .ok (.getstatic 50, 3) := by decide +kernel
theorem dX8_readTown_64 : decode cX8_readTown 64 = .ok (.if_acmp .ne 10, 3) := by decide +kernel
theorem dX8_readTown_67 : decode cX8_readTown 67 = .ok (.aload_n 0, 1) := by decide +kernel
theorem dX8_readTown_68 : decode cX8_readTown 68 = .ok (.invokevirtual 53, 3) := by decide +kernel
theorem dX8_readTown_71 : decode cX8_readTown 71 = .ok (.goto 53, 3) := by decide +kernel
theorem dX8_readTown_74 : decode cX8_readTown 74 = .ok (.aload_n 2, 1) := by decide +kernel
theorem dX8_readTown_75 : decode cX8_readTown 75 = .ok (.getstatic 56, 3) := by decide +kernel
theorem dX8_readTown_78 : decode cX8_readTown 78 = .ok (.if_acmp .ne 10, 3) := by decide +kernel
theorem dX8_readTown_81 : decode cX8_readTown 81 = .ok (.aload_n 0, 1) := by decide +kernel
theorem dX8_readTown_82 : decode cX8_readTown 82 = .ok (.invokevirtual 59, 3) := by decide +kernel
theorem dX8_readTown_85 : decode cX8_readTown 85 = .ok (.goto 39, 3) := by decide +kernel
theorem dX8_readTown_88 : decode cX8_readTown 88 = .ok (.aload_n 2, 1) := by decide +kernel
theorem dX8_readTown_89 : decode cX8_readTown 89 = .ok (.getstatic 62, 3) := by decide +kernel
theorem dX8_readTown_92 : decode cX8_readTown 92 = .ok (.if_acmp .ne 10, 3) := by decide +kernel
theorem dX8_readTown_95 : decode cX8_readTown 95 = .ok (.aload_n 0, 1) := by decide +kernel
theorem dX8_readTown_96 : decode cX8_readTown 96 = .ok (.invokevirtual 65, 3) := by decide +kernel
theorem dX8_readTown_99 : decode cX8_readTown 99 = .ok (.goto 25, 3) := by decide +kernel
theorem dX8_readTown_102 : decode cX8_readTown 102 = .ok (.aload_n 2, 1) := by decide +kernel
theorem dX8_readTown_103 : decode cX8_readTown 103 = .ok (.getstatic 68, 3) := by decide +kernel
theorem dX8_readTown_106 : decode cX8_readTown 106 = .ok (.if_acmp .ne 10, 3) := by decide +kernel
theorem dX8_readTown_109 : decode cX8_readTown 109 = .ok (.aload_n 0, 1) := by decide +kernel
theorem dX8_readTown_110 : decode cX8_readTown 110 = .ok (.invokevirtual 71, 3) := by decide +kernel
theorem dX8_readTown_113 : decode cX8_readTown 113 = .ok (.goto 11, 3) := by decide +kernel
theorem dX8_readTown_116 : decode cX8_readTown 116 = .ok (.aload_n 0, 1) := by decide +kernel
theorem dX8_readTown_117 : decode cX8_readTown 117 = .ok (.getfield 18, 3) := by decide +kernel
theorem dX8_readTown_120 : decode cX8_readTown 120 = .ok (.iconst 1, 1) := by decide +kernel
theorem dX8_readTown_121 : decode cX8_readTown 121 = .ok (.invokevirtual 74, 3) := by decide +kernel
theorem dX8_readTown_124 : decode cX8_readTown 124 = .ok (.iinc 1 1, 3) := by decide +kernel
theorem dX8_readTown_127 : decode cX8_readTown 127 = .ok (.goto (-106), 3) := by decide +kernel
theorem dX8_readTown_130 : decode cX8_readTown 130 = .ok (.aload_n 0, 1) := by decide +kernel
theorem dX8_readTown_131 : decode cX8_readTown 131 = .ok (.getfield 18, 3) := by decide +kernel
theorem dX8_readTown_134 : decode cX8_readTown 134 = .ok (.invokevirtual 78, 3) := by decide +kernel
theorem dX8_readTown_137 : decode cX8_readTown 137 = .ok (.ireturn, 1) := by decide +kernel
noncomputable def FX8_readTown (a0 : Nat) : PP Int32 := bd (FX7_clear (rf a0 1)) (fun (_ : Unit) => bd (sI a0 2 (0 : Int32)) (fun (_ : Unit) => bd (FX5_startReading (rf a0 0)) (fun (_ : Unit) => bd (it (fun (s3 : Int32) => (if (1000 : Int32) ≤ s3 then pu (Sum.inr ()) else bd (gI (rf a0 0) 2) (fun x4 => if x4 = 0 then pu (Sum.inr ()) else bd (gW) (fun x5 => bd (if x5 = ((some (0 : Fin 23))) then bd (FX8_readLine a0) (fun (_ : Unit) => pu ()) else if x5 = ((some (2 : Fin 23))) then bd (FX8_readPlace a0) (fun (_ : Unit) => pu ()) else if x5 = ((some (4 : Fin 23))) then bd (FX8_readCloth a0) (fun (_ : Unit) => pu ()) else if x5 = ((some (6 : Fin 23))) then bd (FX8_readCrossing a0) (fun (_ : Unit) => pu ()) else if x5 = ((some (7 : Fin 23))) then bd (FX8_readLaw a0) (fun (_ : Unit) => pu ()) else bd (FX5_fail (rf a0 0) (1 : Int32)) (fun (_ : Unit) => pu ()) : PP (Unit)) (fun (v12 : Unit) => lt (s3 + (1 : Int32)) (fun y13 => pu (Sum.inl y13))))) : PP ((Int32) ⊕ (Unit)))) FU (0 : Int32)) (fun (v14 : Unit) => bd (FX5_endReading (rf a0 0)) (fun x15 => pu x15)))))
set_option maxHeartbeats 4000000 in
set_option maxRecDepth 100000 in
theorem SX8_readTown {l : Launch} {K : KK} {n : Nat} {hn : 270 ≤ n} (a0 : Nat) (h0 : ob a0 8) : CT l K n 133 mX8_readTown [.ref (K.2.1 + a0)] enI (FX8_readTown a0) := by
  refine CT.of2 (lv2 := [(0, .ref (K.2.1 + a0))]) (by decide) rfl hn (Nat.le_of_ble_eq_true rfl) rfl (rp_id ?_)
  unfold FX8_readTown
  refine rp_aload_n 0 dX8_readTown_0 rfl ?_
  refine rp_getR fi_X8_12 h0 rfl dX8_readTown_1 ?_
  refine rp_callVv [] (SX7_clear (hn := hn) (rf a0 1) (tX8_1 h0)) cvX7_clear (mw (i := 426) (by decide +kernel)) (by omega) (tX8_1 h0) (by decide) rfl rfl rfl (Nat.le_of_ble_eq_true rfl) dX8_readTown_4 (fun x1 => ?_)
  refine rp_aload_n 0 dX8_readTown_7 rfl ?_
  refine rp_iconst (0 : Int32) dX8_readTown_8 (by decide) ?_
  refine rp_putZ (by decide) fi_X8_25 fp_X8_2 h0 rfl dX8_readTown_9 ?_
  refine rp_aload_n 0 dX8_readTown_12 rfl ?_
  refine rp_getR fi_X8_18 h0 rfl dX8_readTown_13 ?_
  refine rp_callVv [] (SX5_startReading (hn := hn) (rf a0 0) (tX8_0 h0)) cvX5_startReading (mw (i := 438) (by decide +kernel)) (by omega) (tX8_0 h0) (by decide) rfl rfl rfl (Nat.le_of_ble_eq_true rfl) dX8_readTown_16 (fun x2 => ?_)
  refine rp_iconst (0 : Int32) dX8_readTown_19 (by decide) ?_
  refine rp_istore_n [(1, .int (0 : Int32)), (0, .ref (K.2.1 + a0))] dX8_readTown_20 (by decide) rfl ?_
  refine rp_as ?_
  refine rp_join 130 (fun v14 => [(0, .ref (K.2.1 + a0))]) (fun _ => []) (fun v14 => ?_) (fun hX21_0 => ?_)
  · refine rp_aload_n 0 dX8_readTown_130 rfl ?_
    refine rp_getR fi_X8_18 h0 rfl dX8_readTown_131 ?_
    refine rp_callVi [] (SX5_endReading (hn := hn) (rf a0 0) (tX8_0 h0)) cvX5_endReading (mw (i := 715) (by decide +kernel)) (by omega) (tX8_0 h0) (by decide) rfl rfl rfl (Nat.le_of_ble_eq_true rfl) dX8_readTown_134 (fun x15 => ?_)
    exact rp_pu (rp_iret rfl dX8_readTown_137)
  refine rp_sub [1, 0] rfl (rp_it (fun (s3 : Int32) => [(0, .ref (K.2.1 + a0)), (1, .int s3)]) (fun N21 ih21 s3 => ?_) FU (0 : Int32))
  refine rp_iload_n 1 dX8_readTown_21 rfl ?_
  refine rp_sipush (1000 : Int32) dX8_readTown_22 (by decide) ?_
  refine rp_icmp_ge 130 dX8_readTown_25 (by decide) ?_ ?_
  · exact rp_sub [0] rfl (rp_puR (hX21_0 ()))
  · refine rp_aload_n 0 dX8_readTown_28 rfl ?_
    refine rp_getR fi_X8_18 h0 rfl dX8_readTown_29 ?_
    refine rp_getI fi_X8_34 (tX8_0 h0) rfl dX8_readTown_32 (fun x4 => ?_)
    refine rp_if_eq 130 dX8_readTown_35 (by decide) ?_ ?_
    · exact rp_sub [0] rfl (rp_puR (hX21_0 ()))
    · refine rp_aload_n 0 dX8_readTown_38 rfl ?_
      refine rp_getR fi_X8_18 h0 rfl dX8_readTown_39 ?_
      refine rp_getW fi_X8_38 (tX8_0 h0) rfl dX8_readTown_42 (fun x5 => ?_)
      refine rp_wstore_n [(2, wr K x5), (0, .ref (K.2.1 + a0)), (1, .int s3)] dX8_readTown_45 (by decide) rfl ?_
      refine rp_wload_n 0 dX8_readTown_46 rfl ?_
      refine rp_getWord (0 : Fin 23) (mw (i := 578) (by decide +kernel)) dX8_readTown_47 ?_
      refine rp_as ?_
      refine rp_join 124 (fun (v12 : Unit) => [(0, .ref (K.2.1 + a0)), (1, .int s3)]) (fun v12 => []) (fun v12 => ?_) (fun hJ124 => ?_)
      · refine rp_iinc (fun y13 => [(1, .int y13), (0, .ref (K.2.1 + a0))]) 1 dX8_readTown_124 rfl (by rfl) (by decide) (fun y13 => rfl) (fun y13 => ?_)
        refine rp_goto 21 dX8_readTown_127 (by decide) ?_
        exact rp_sub [1, 0] rfl (ih21 y13)
      refine rp_acmp_ne 60 dX8_readTown_50 (by decide) ?_ ?_
      · refine rp_wload_n 0 dX8_readTown_60 rfl ?_
        refine rp_getWord (2 : Fin 23) (mw (i := 627) (by decide +kernel)) dX8_readTown_61 ?_
        refine rp_acmp_ne 74 dX8_readTown_64 (by decide) ?_ ?_
        · refine rp_wload_n 0 dX8_readTown_74 rfl ?_
          refine rp_getWord (4 : Fin 23) (mw (i := 649) (by decide +kernel)) dX8_readTown_75 ?_
          refine rp_acmp_ne 88 dX8_readTown_78 (by decide) ?_ ?_
          · refine rp_wload_n 0 dX8_readTown_88 rfl ?_
            refine rp_getWord (6 : Fin 23) (mw (i := 661) (by decide +kernel)) dX8_readTown_89 ?_
            refine rp_acmp_ne 102 dX8_readTown_92 (by decide) ?_ ?_
            · refine rp_wload_n 0 dX8_readTown_102 rfl ?_
              refine rp_getWord (7 : Fin 23) (mw (i := 680) (by decide +kernel)) dX8_readTown_103 ?_
              refine rp_acmp_ne 116 dX8_readTown_106 (by decide) ?_ ?_
              · refine rp_aload_n 1 dX8_readTown_116 rfl ?_
                refine rp_getR fi_X8_18 h0 rfl dX8_readTown_117 ?_
                refine rp_iconst (1 : Int32) dX8_readTown_120 (by decide) ?_
                refine rp_callVv [.int (1 : Int32)] (SX5_fail (hn := hn) (rf a0 0) (1 : Int32) (tX8_0 h0)) cvX5_fail (mw (i := 588) (by decide +kernel)) (by omega) (tX8_0 h0) (by decide) rfl rfl rfl (Nat.le_of_ble_eq_true rfl) dX8_readTown_121 (fun x6 => ?_)
                exact rp_sub [1, 2] rfl (rp_pu (hJ124 ()))
              · refine rp_aload_n 1 dX8_readTown_109 rfl ?_
                refine rp_callVv [] (SX8_readLaw (hn := hn) a0 h0) cvX8_readLaw (mw (i := 682) (by decide +kernel)) (by omega) h0 (by decide) rfl rfl rfl (Nat.le_of_ble_eq_true rfl) dX8_readTown_110 (fun x7 => ?_)
                refine rp_goto 124 dX8_readTown_113 (by decide) ?_
                exact rp_sub [1, 2] rfl (rp_pu (hJ124 ()))
            · refine rp_aload_n 1 dX8_readTown_95 rfl ?_
              refine rp_callVv [] (SX8_readCrossing (hn := hn) a0 h0) cvX8_readCrossing (mw (i := 663) (by decide +kernel)) (by omega) h0 (by decide) rfl rfl rfl (Nat.le_of_ble_eq_true rfl) dX8_readTown_96 (fun x8 => ?_)
              refine rp_goto 124 dX8_readTown_99 (by decide) ?_
              exact rp_sub [1, 2] rfl (rp_pu (hJ124 ()))
          · refine rp_aload_n 1 dX8_readTown_81 rfl ?_
            refine rp_callVv [] (SX8_readCloth (hn := hn) a0 h0) cvX8_readCloth (mw (i := 651) (by decide +kernel)) (by omega) h0 (by decide) rfl rfl rfl (Nat.le_of_ble_eq_true rfl) dX8_readTown_82 (fun x9 => ?_)
            refine rp_goto 124 dX8_readTown_85 (by decide) ?_
            exact rp_sub [1, 2] rfl (rp_pu (hJ124 ()))
        · refine rp_aload_n 1 dX8_readTown_67 rfl ?_
          refine rp_callVv [] (SX8_readPlace (hn := hn) a0 h0) cvX8_readPlace (mw (i := 629) (by decide +kernel)) (by omega) h0 (by decide) rfl rfl rfl (Nat.le_of_ble_eq_true rfl) dX8_readTown_68 (fun x10 => ?_)
          refine rp_goto 124 dX8_readTown_71 (by decide) ?_
          exact rp_sub [1, 2] rfl (rp_pu (hJ124 ()))
      · refine rp_aload_n 1 dX8_readTown_53 rfl ?_
        refine rp_callVv [] (SX8_readLine (hn := hn) a0 h0) cvX8_readLine (mw (i := 580) (by decide +kernel)) (by omega) h0 (by decide) rfl rfl rfl (Nat.le_of_ble_eq_true rfl) dX8_readTown_54 (fun x11 => ?_)
        refine rp_goto 124 dX8_readTown_57 (by decide) ?_
        exact rp_sub [1, 2] rfl (rp_pu (hJ124 ()))

theorem dX11_street_0 : decode cX11_street 0 = .ok (.aload_n 0, 1) := by decide +kernel
theorem dX11_street_1 : decode cX11_street 1 = .ok (.getfield 28, 3) := by decide +kernel
theorem dX11_street_4 : decode cX11_street 4 = .ok (.invokevirtual 96, 3) := by decide +kernel
theorem dX11_street_7 : decode cX11_street 7 = .ok (.istore_n 1, 1) := by decide +kernel
theorem dX11_street_8 : decode cX11_street 8 = .ok (.iload_n 1, 1) := by decide +kernel
theorem dX11_street_9 : decode cX11_street 9 = .ok (.ifCond .ne 21, 3) := by decide +kernel
theorem dX11_street_12 : decode cX11_street 12 = .ok (.aload_n 0, 1) := by decide +kernel
theorem dX11_street_13 : decode cX11_street 13 = .ok (.getfield 19, 3) := by decide +kernel
theorem dX11_street_16 : decode cX11_street 16 = .ok (.aload_n 0, 1) := by decide +kernel
theorem dX11_street_17 : decode cX11_street 17 = .ok (.getfield 28, 3) := by decide +kernel
theorem dX11_street_20 : decode cX11_street 20 = .ok (.getfield 100, 3) := by decide +kernel
theorem dX11_street_23 : decode cX11_street 23 = .ok (.invokevirtual 103, 3) := by decide +kernel
theorem dX11_street_26 : decode cX11_street 26 = .ok (.aload_n 0, 1) := by decide +kernel
theorem dX11_street_27 : decode cX11_street 27 = .ok (.invokevirtual 106, 3) := by decide +kernel
theorem dX11_street_30 : decode cX11_street 30 = .ok (.iload_n 1, 1) := by decide +kernel
theorem dX11_street_31 : decode cX11_street 31 = .ok (.ireturn, 1) := by decide +kernel
noncomputable def FX11_street (a0 : Nat) : PP Int32 := bd (FX8_readTown (rf a0 2)) (fun x1 => bd (if x1 = 0 then bd (FX7_copyFrom (rf a0 1) (rf (rf a0 2) 1)) (fun (_ : Unit) => bd (FX11_startAnew a0) (fun (_ : Unit) => pu ())) else pu () : PP (Unit)) (fun (v4 : Unit) => pu x1))
set_option maxHeartbeats 4000000 in
set_option maxRecDepth 100000 in
theorem SX11_street {l : Launch} {K : KK} {n : Nat} {hn : 270 ≤ n} (a0 : Nat) (h0 : ob a0 10) : CT l K n 134 mX11_street [.ref (K.2.1 + a0)] enI (FX11_street a0) := by
  refine CT.of2 (lv2 := [(0, .ref (K.2.1 + a0))]) (by decide) rfl hn (Nat.le_of_ble_eq_true rfl) rfl (rp_id ?_)
  unfold FX11_street
  refine rp_aload_n 0 dX11_street_0 rfl ?_
  refine rp_getR fi_X11_28 h0 rfl dX11_street_1 ?_
  refine rp_callVi [] (SX8_readTown (hn := hn) (rf a0 2) (tX11_2 h0)) cvX8_readTown (mw (i := 422) (by decide +kernel)) (by omega) (tX11_2 h0) (by decide) rfl rfl rfl (Nat.le_of_ble_eq_true rfl) dX11_street_4 (fun x1 => ?_)
  refine rp_istore_n [(1, .int x1), (0, .ref (K.2.1 + a0))] dX11_street_7 (by decide) rfl ?_
  refine rp_iload_n 0 dX11_street_8 rfl ?_
  refine rp_as ?_
  refine rp_join 30 (fun (v4 : Unit) => [(1, .int x1)]) (fun v4 => []) (fun v4 => ?_) (fun hJ30 => ?_)
  · refine rp_iload_n 0 dX11_street_30 rfl ?_
    exact rp_pu (rp_iret rfl dX11_street_31)
  refine rp_if_ne 30 dX11_street_9 (by decide) ?_ ?_
  · exact rp_sub [0] rfl (rp_pu (hJ30 ()))
  · refine rp_aload_n 1 dX11_street_12 rfl ?_
    refine rp_getR fi_X11_19 h0 rfl dX11_street_13 ?_
    refine rp_aload_n 1 dX11_street_16 rfl ?_
    refine rp_getR fi_X11_28 h0 rfl dX11_street_17 ?_
    refine rp_getR fi_X11_100 (tX11_2 h0) rfl dX11_street_20 ?_
    refine rp_callVv [.ref (K.2.1 + (rf (rf a0 2) 1))] (SX7_copyFrom (hn := hn) (rf a0 1) (rf (rf a0 2) 1) (tX11_1 h0) (tX8_1 (tX11_2 h0))) cvX7_copyFrom (mw (i := 719) (by decide +kernel)) (by omega) (tX11_1 h0) (by decide) rfl rfl rfl (Nat.le_of_ble_eq_true rfl) dX11_street_23 (fun x2 => ?_)
    refine rp_aload_n 1 dX11_street_26 rfl ?_
    refine rp_callVv [] (SX11_startAnew (hn := hn) a0 h0) cvX11_startAnew (mw (i := 731) (by decide +kernel)) (by omega) h0 (by decide) rfl rfl rfl (Nat.le_of_ble_eq_true rfl) dX11_street_27 (fun x3 => ?_)
    exact rp_sub [0] rfl (rp_pu (hJ30 ()))

theorem dX11_morning_0 : decode cX11_morning 0 = .ok (.aload_n 0, 1) := by decide +kernel
theorem dX11_morning_1 : decode cX11_morning 1 = .ok (.getfield 39, 3) := by decide +kernel
theorem dX11_morning_4 : decode cX11_morning 4 = .ok (.aload_n 0, 1) := by decide +kernel
theorem dX11_morning_5 : decode cX11_morning 5 = .ok (.getfield 10, 3) := by decide +kernel
theorem dX11_morning_8 : decode cX11_morning 8 = .ok (.aload_n 0, 1) := by decide +kernel
theorem dX11_morning_9 : decode cX11_morning 9 = .ok (.getfield 19, 3) := by decide +kernel
theorem dX11_morning_12 : decode cX11_morning 12 = .ok (.invokevirtual 109, 3) := by decide +kernel
theorem dX11_morning_15 : decode cX11_morning 15 = .ok (.istore_n 1, 1) := by decide +kernel
theorem dX11_morning_16 : decode cX11_morning 16 = .ok (.iload_n 1, 1) := by decide +kernel
theorem dX11_morning_17 : decode cX11_morning 17 = .ok (.ifCond .ne 14, 3) := by decide +kernel
theorem dX11_morning_20 : decode cX11_morning 20 = .ok (.aload_n 0, 1) := by decide +kernel
theorem dX11_morning_21 : decode cX11_morning 21 = .ok (.getfield 35, 3) := by decide +kernel
theorem dX11_morning_24 : decode cX11_morning 24 = .ok (.aload_n 0, 1) := by decide +kernel
theorem dX11_morning_25 : decode cX11_morning 25 = .ok (.getfield 39, 3) := by decide +kernel
theorem dX11_morning_28 : decode cX11_morning 28 = .ok (.invokevirtual 113, 3) := by decide +kernel
theorem dX11_morning_31 : decode cX11_morning 31 = .ok (.iload_n 1, 1) := by decide +kernel
theorem dX11_morning_32 : decode cX11_morning 32 = .ok (.ireturn, 1) := by decide +kernel
noncomputable def FX11_morning (a0 : Nat) : PP Int32 := bd (FX3_readFrom (rf a0 4) (rf a0 0) (rf a0 1)) (fun x1 => bd (if x1 = 0 then bd (FX3_copyFrom (rf a0 3) (rf a0 4)) (fun (_ : Unit) => pu ()) else pu () : PP (Unit)) (fun (v3 : Unit) => pu x1))
set_option maxHeartbeats 4000000 in
set_option maxRecDepth 100000 in
theorem SX11_morning {l : Launch} {K : KK} {n : Nat} {hn : 270 ≤ n} (a0 : Nat) (h0 : ob a0 10) : CT l K n 11 mX11_morning [.ref (K.2.1 + a0)] enI (FX11_morning a0) := by
  refine CT.of2 (lv2 := [(0, .ref (K.2.1 + a0))]) (by decide) rfl hn (Nat.le_of_ble_eq_true rfl) rfl (rp_id ?_)
  unfold FX11_morning
  refine rp_aload_n 0 dX11_morning_0 rfl ?_
  refine rp_getR fi_X11_39 h0 rfl dX11_morning_1 ?_
  refine rp_aload_n 0 dX11_morning_4 rfl ?_
  refine rp_getR fi_X11_10 h0 rfl dX11_morning_5 ?_
  refine rp_aload_n 0 dX11_morning_8 rfl ?_
  refine rp_getR fi_X11_19 h0 rfl dX11_morning_9 ?_
  refine rp_callVi [.ref (K.2.1 + (rf a0 0)), .ref (K.2.1 + (rf a0 1))] (SX3_readFrom (hn := hn) (rf a0 4) (rf a0 0) (rf a0 1) (tX11_4 h0) (tX11_0 h0) (tX11_1 h0)) cvX3_readFrom (mw (i := 748) (by decide +kernel)) (by omega) (tX11_4 h0) (by decide) rfl rfl rfl (Nat.le_of_ble_eq_true rfl) dX11_morning_12 (fun x1 => ?_)
  refine rp_istore_n [(1, .int x1), (0, .ref (K.2.1 + a0))] dX11_morning_15 (by decide) rfl ?_
  refine rp_iload_n 0 dX11_morning_16 rfl ?_
  refine rp_as ?_
  refine rp_join 31 (fun (v3 : Unit) => [(1, .int x1)]) (fun v3 => []) (fun v3 => ?_) (fun hJ31 => ?_)
  · refine rp_iload_n 0 dX11_morning_31 rfl ?_
    exact rp_pu (rp_iret rfl dX11_morning_32)
  refine rp_if_ne 31 dX11_morning_17 (by decide) ?_ ?_
  · exact rp_sub [0] rfl (rp_pu (hJ31 ()))
  · refine rp_aload_n 1 dX11_morning_20 rfl ?_
    refine rp_getR fi_X11_35 h0 rfl dX11_morning_21 ?_
    refine rp_aload_n 1 dX11_morning_24 rfl ?_
    refine rp_getR fi_X11_39 h0 rfl dX11_morning_25 ?_
    refine rp_callVv [.ref (K.2.1 + (rf a0 4))] (SX3_copyFrom (hn := hn) (rf a0 3) (rf a0 4) (tX11_3 h0) (tX11_4 h0)) cvX3_copyFrom (mw (i := 774) (by decide +kernel)) (by omega) (tX11_3 h0) (by decide) rfl rfl rfl (Nat.le_of_ble_eq_true rfl) dX11_morning_28 (fun x2 => ?_)
    exact rp_sub [0] rfl (rp_pu (hJ31 ()))
