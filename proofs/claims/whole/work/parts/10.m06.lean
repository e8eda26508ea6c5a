theorem dX11_chance_0 : decode cX11_chance 0 = .ok (.aload_n 0, 1) := by decide +kernel
theorem dX11_chance_1 : decode cX11_chance 1 = .ok (.getfield 47, 3) := by decide +kernel
theorem dX11_chance_4 : decode cX11_chance 4 = .ok (.iload_n 1, 1) := by decide +kernel
theorem dX11_chance_5 : decode cX11_chance 5 = .ok (.invokevirtual 218, 3) := by decide +kernel
theorem dX11_chance_8 : decode cX11_chance 8 = .ok (.ifCond .eq 24, 3) := by decide +kernel
theorem dX11_chance_11 : decode cX11_chance 11 = .ok (.iload_n 2, 1) := by decide +kernel
theorem dX11_chance_12 : decode cX11_chance 12 = .ok (.iconst 1, 1) := by decide +kernel
theorem dX11_chance_13 : decode cX11_chance 13 = .ok (.if_icmp .lt 19, 3) := by decide +kernel
theorem dX11_chance_16 : decode cX11_chance 16 = .ok (.iload_n 2, 1) := by decide +kernel
theorem dX11_chance_17 : decode cX11_chance 17 = .ok (.bipush 6, 2) := by decide +kernel
theorem dX11_chance_19 : decode cX11_chance 19 = .ok (.if_icmp .gt 13, 3) := by decide +kernel
theorem dX11_chance_22 : decode cX11_chance 22 = .ok (.iload_n 3, 1) := by decide +kernel
theorem dX11_chance_23 : decode cX11_chance 23 = .ok (.ifCond .lt 9, 3) := by decide +kernel
theorem dX11_chance_26 : decode cX11_chance 26 = .ok (.iload_n 3, 1) := by decide +kernel
theorem dX11_chance_27 : decode cX11_chance 27 = .ok (.bipush 10, 2) := by decide +kernel
theorem dX11_chance_29 : decode cX11_chance 29 = .ok (.if_icmp .le 5, 3) := by decide +kernel
theorem dX11_chance_32 : decode cX11_chance 32 = .ok (.iconst (-1), 1) := by decide +kernel
theorem dX11_chance_33 : decode cX11_chance 33 = .ok (.ireturn, 1) := by decide +kernel
theorem dX11_chance_34 : decode cX11_chance 34 = .ok (.aload_n 0, 1) := by decide +kernel
theorem dX11_chance_35 : decode cX11_chance 35 = .ok (.getfield 84, 3) := by decide +kernel
theorem dX11_chance_38 : decode cX11_chance 38 = .ok (.iconst 0, 1) := by decide +kernel
theorem dX11_chance_39 : decode cX11_chance 39 = .ok (.aaload, 1) := by decide +kernel
theorem dX11_chance_40 : decode cX11_chance 40 = .ok (.aload_n 0, 1) := by decide +kernel
theorem dX11_chance_41 : decode cX11_chance 41 = .ok (.getfield 47, 3) := by decide +kernel
theorem dX11_chance_44 : decode cX11_chance 44 = .ok (.invokevirtual 260, 3) := by decide +kernel
theorem dX11_chance_47 : decode cX11_chance 47 = .ok (.aload_n 0, 1) := by decide +kernel
theorem dX11_chance_48 : decode cX11_chance 48 = .ok (.iload_n 1, 1) := by decide +kernel
theorem dX11_chance_49 : decode cX11_chance 49 = .ok (.iconst 0, 1) := by decide +kernel
theorem dX11_chance_50 : decode cX11_chance 50 = .ok (.iload_n 2, 1) := by decide +kernel
theorem dX11_chance_51 : decode cX11_chance 51 = .ok (.iload_n 3, 1) := by decide +kernel
theorem dX11_chance_52 : decode cX11_chance 52 = .ok (.invokevirtual 265, 3) := by decide +kernel
theorem dX11_chance_55 : decode cX11_chance 55 = .ok (.istore 4, 2) := by decide +kernel
theorem dX11_chance_57 : decode cX11_chance 57 = .ok (.iload_n 2, 1) := by decide +kernel
theorem dX11_chance_58 : decode cX11_chance 58 = .ok (.istore 5, 2) := by decide +kernel
theorem dX11_chance_60 : decode cX11_chance 60 = .ok (.iload 5, 2) := by decide +kernel
theorem dX11_chance_62 : decode cX11_chance 62 = .ok (.bipush 6, 2) := by decide +kernel
theorem dX11_chance_64 : decode cX11_chance 64 = .ok (.if_icmp .ge 16, 3) := by decide +kernel
theorem dX11_chance_67 : decode cX11_chance 67 = .ok (.iload 4, 2) := by decide +kernel
theorem dX11_chance_69 : decode cX11_chance 69 = .ok (.bipush 10, 2) := by decide +kernel
theorem dX11_chance_71 : decode cX11_chance 71 = .ok (.imul, 1) := by decide +kernel
theorem dX11_chance_72 : decode cX11_chance 72 = .ok (.istore 4, 2) := by decide +kernel
theorem dX11_chance_74 : decode cX11_chance 74 = .ok (.iinc 5 1, 3) := by decide +kernel
theorem dX11_chance_77 : decode cX11_chance 77 = .ok (.goto (-17), 3) := by decide +kernel
theorem dX11_chance_80 : decode cX11_chance 80 = .ok (.iload 4, 2) := by decide +kernel
theorem dX11_chance_82 : decode cX11_chance 82 = .ok (.ireturn, 1) := by decide +kernel
noncomputable def FX11_chance (a0 : Nat) (p1 : Int32) (p2 : Int32) (p3 : Int32) : PP Int32 := bd (FX4_hangs (rf a0 5) p1) (fun x1 => if ((b2i x1)) = 0 then pu (-1 : Int32) else if p2 < (1 : Int32) then pu (-1 : Int32) else if (6 : Int32) < p2 then pu (-1 : Int32) else if p3 < 0 then pu (-1 : Int32) else if p3 ≤ (10 : Int32) then bd (gd (ib (0 : Int32) 7 = true)) (fun (_ : Unit) => bd (FX4_copyFrom (rf (rf a0 11) (0 : Int32).toNatClampNeg) (rf a0 5)) (fun (_ : Unit) => bd (FX11_waysToDry 10 a0 p1 (0 : Int32) p2 p3) (fun x4 => bd (it (fun (s5 : Int32 × Int32) => (if (6 : Int32) ≤ s5.2 then pu (Sum.inr s5.1) else lt (s5.1 * (10 : Int32)) (fun y6 => lt (s5.2 + (1 : Int32)) (fun y7 => pu (Sum.inl (y6, y7)))) : PP ((Int32 × Int32) ⊕ (Int32)))) FU (x4, p2)) (fun (v8 : Int32) => pu v8)))) else pu (-1 : Int32))
set_option maxHeartbeats 4000000 in
set_option maxRecDepth 100000 in
theorem SX11_chance {l : Launch} {K : KK} {n : Nat} {hn : 270 ≤ n} (a0 : Nat) (p1 : Int32) (p2 : Int32) (p3 : Int32) (h0 : ob a0 10) : CT l K n 31 mX11_chance [.ref (K.2.1 + a0), .int p1, .int p2, .int p3] enI (FX11_chance a0 p1 p2 p3) := by
  refine CT.of2 (lv2 := [(0, .ref (K.2.1 + a0)), (1, .int p1), (2, .int p2), (3, .int p3)]) (by decide) rfl hn (Nat.le_of_ble_eq_true rfl) rfl (rp_id ?_)
  unfold FX11_chance
  refine rp_aload_n 0 dX11_chance_0 rfl ?_
  refine rp_getR fi_X11_47 h0 rfl dX11_chance_1 ?_
  refine rp_iload_n 1 dX11_chance_4 rfl ?_
  refine rp_callVz [.int p1] (SX4_hangs (hn := hn) (rf a0 5) p1 (tX11_5 h0)) cvX4_hangs (mw (i := 880) (by decide +kernel)) (by omega) (tX11_5 h0) (by decide) rfl rfl rfl (Nat.le_of_ble_eq_true rfl) dX11_chance_5 (fun x1 => ?_)
  refine rp_if_eq 32 dX11_chance_8 (by decide) ?_ ?_
  · refine rp_iconst (-1 : Int32) dX11_chance_32 (by decide) ?_
    exact rp_pu (rp_iret rfl dX11_chance_33)
  · refine rp_iload_n 2 dX11_chance_11 rfl ?_
    refine rp_iconst (1 : Int32) dX11_chance_12 (by decide) ?_
    refine rp_icmp_lt 32 dX11_chance_13 (by decide) ?_ ?_
    · refine rp_iconst (-1 : Int32) dX11_chance_32 (by decide) ?_
      exact rp_pu (rp_iret rfl dX11_chance_33)
    · refine rp_iload_n 2 dX11_chance_16 rfl ?_
      refine rp_bipush (6 : Int32) dX11_chance_17 (by decide) ?_
      refine rp_icmp_gt 32 dX11_chance_19 (by decide) ?_ ?_
      · refine rp_iconst (-1 : Int32) dX11_chance_32 (by decide) ?_
        exact rp_pu (rp_iret rfl dX11_chance_33)
      · refine rp_iload_n 3 dX11_chance_22 rfl ?_
        refine rp_if_lt 32 dX11_chance_23 (by decide) ?_ ?_
        · refine rp_iconst (-1 : Int32) dX11_chance_32 (by decide) ?_
          exact rp_pu (rp_iret rfl dX11_chance_33)
        · refine rp_iload_n 3 dX11_chance_26 rfl ?_
          refine rp_bipush (10 : Int32) dX11_chance_27 (by decide) ?_
          refine rp_icmp_le 34 dX11_chance_29 (by decide) ?_ ?_
          · refine rp_aload_n 0 dX11_chance_34 rfl ?_
            refine rp_getR fi_X11_84 h0 rfl dX11_chance_35 ?_
            refine rp_iconst (0 : Int32) dX11_chance_38 (by decide) ?_
            refine rp_aald (tX11_11 h0) (Or.inl rfl) dX11_chance_39 (fun hb2 => ?_)
            refine rp_aload_n 0 dX11_chance_40 rfl ?_
            refine rp_getR fi_X11_47 h0 rfl dX11_chance_41 ?_
            refine rp_callVv [.ref (K.2.1 + (rf a0 5))] (SX4_copyFrom (hn := hn) (rf (rf a0 11) (0 : Int32).toNatClampNeg) (rf a0 5) (arr4 (tX11_11 h0) hb2) (tX11_5 h0)) cvX4_copyFrom (mw (i := 988) (by decide +kernel)) (by omega) (arr4 (tX11_11 h0) hb2) (by decide) rfl rfl rfl (Nat.le_of_ble_eq_true rfl) dX11_chance_44 (fun x3 => ?_)
            refine rp_aload_n 0 dX11_chance_47 rfl ?_
            refine rp_iload_n 1 dX11_chance_48 rfl ?_
            refine rp_iconst (0 : Int32) dX11_chance_49 (by decide) ?_
            refine rp_iload_n 2 dX11_chance_50 rfl ?_
            refine rp_iload_n 3 dX11_chance_51 rfl ?_
            refine rp_callVi [.int p1, .int (0 : Int32), .int p2, .int p3] (SX11_waysToDry (hn := hn) 10 a0 p1 (0 : Int32) p2 p3 h0) cvX11_waysToDry (mw (i := 1006) (by decide +kernel)) (by omega) h0 (by decide) rfl rfl rfl (Nat.le_of_ble_eq_true rfl) dX11_chance_52 (fun x4 => ?_)
            refine rp_istore [(4, .int x4), (0, .ref (K.2.1 + a0)), (1, .int p1), (2, .int p2), (3, .int p3)] dX11_chance_55 (by decide) rfl ?_
            refine rp_iload_n 3 dX11_chance_57 rfl ?_
            refine rp_istore [(5, .int p2), (4, .int x4), (0, .ref (K.2.1 + a0)), (1, .int p1), (2, .int p2), (3, .int p3)] dX11_chance_58 (by decide) rfl ?_
            refine rp_as ?_
            refine rp_join 80 (fun v8 => [(4, .int v8)]) (fun _ => []) (fun v8 => ?_) (fun hX60_0 => ?_)
            · refine rp_iload 0 dX11_chance_80 rfl ?_
              exact rp_pu (rp_iret rfl dX11_chance_82)
            refine rp_sub [1, 0] rfl (rp_it (fun (s5 : Int32 × Int32) => [(4, .int s5.1), (5, .int s5.2)]) (fun N60 ih60 s5 => ?_) FU (x4, p2))
            refine rp_iload 1 dX11_chance_60 rfl ?_
            refine rp_bipush (6 : Int32) dX11_chance_62 (by decide) ?_
            refine rp_icmp_ge 80 dX11_chance_64 (by decide) ?_ ?_
            · exact rp_sub [0] rfl (rp_puR (hX60_0 s5.1))
            · refine rp_iload 0 dX11_chance_67 rfl ?_
              refine rp_bipush (10 : Int32) dX11_chance_69 (by decide) ?_
              refine rp_imul dX11_chance_71 ?_
              refine rp_lti (fun y6 => ?_)
              refine rp_istore [(4, .int y6), (5, .int s5.2)] dX11_chance_72 (by decide) rfl ?_
              refine rp_iinc (fun y7 => [(5, .int y7), (4, .int y6)]) 1 dX11_chance_74 rfl (by rfl) (by decide) (fun y7 => rfl) (fun y7 => ?_)
              refine rp_goto 60 dX11_chance_77 (by decide) ?_
              exact rp_sub [1, 0] rfl (ih60 (y6, y7))
          · refine rp_iconst (-1 : Int32) dX11_chance_32 (by decide) ?_
            exact rp_pu (rp_iret rfl dX11_chance_33)

theorem dX11_wish_0 : decode cX11_wish 0 = .ok (.iload_n 1, 1) := by decide +kernel
theorem dX11_wish_1 : decode cX11_wish 1 = .ok (.iconst (-1), 1) := by decide +kernel
theorem dX11_wish_2 : decode cX11_wish 2 = .ok (.if_icmp .eq 17, 3) := by decide +kernel
theorem dX11_wish_5 : decode cX11_wish 5 = .ok (.aload_n 0, 1) := by decide +kernel
theorem dX11_wish_6 : decode cX11_wish 6 = .ok (.getfield 19, 3) := by decide +kernel
theorem dX11_wish_9 : decode cX11_wish 9 = .ok (.iload_n 1, 1) := by decide +kernel
theorem dX11_wish_10 : decode cX11_wish 10 = .ok (.invokevirtual 149, 3) := by decide +kernel
theorem dX11_wish_13 : decode cX11_wish 13 = .ok (.ifCond .ne 6, 3) := by decide +kernel
theorem dX11_wish_16 : decode cX11_wish 16 = .ok (.bipush (-2), 2) := by decide +kernel
theorem dX11_wish_18 : decode cX11_wish 18 = .ok (.ireturn, 1) := by decide +kernel
theorem dX11_wish_19 : decode cX11_wish 19 = .ok (.aload_n 0, 1) := by decide +kernel
theorem dX11_wish_20 : decode cX11_wish 20 = .ok (.getfield 66, 3) := by decide +kernel
theorem dX11_wish_23 : decode cX11_wish 23 = .ok (.aload_n 0, 1) := by decide +kernel
theorem dX11_wish_24 : decode cX11_wish 24 = .ok (.getfield 47, 3) := by decide +kernel
theorem dX11_wish_27 : decode cX11_wish 27 = .ok (.invokevirtual 275, 3) := by decide +kernel
theorem dX11_wish_30 : decode cX11_wish 30 = .ok (.istore_n 2, 1) := by decide +kernel
theorem dX11_wish_31 : decode cX11_wish 31 = .ok (.iload_n 2, 1) := by decide +kernel
theorem dX11_wish_32 : decode cX11_wish 32 = .ok (.iconst (-1), 1) := by decide +kernel
theorem dX11_wish_33 : decode cX11_wish 33 = .ok (.if_icmp .ne 6, 3) := by decide +kernel
theorem dX11_wish_36 : decode cX11_wish 36 = .ok (.bipush (-2), 2) := by decide +kernel
theorem dX11_wish_38 : decode cX11_wish 38 = .ok (.ireturn, 1) := by decide +kernel
theorem dX11_wish_39 : decode cX11_wish 39 = .ok (.iload_n 1, 1) := by decide +kernel
theorem dX11_wish_40 : decode cX11_wish 40 = .ok (.iconst (-1), 1) := by decide +kernel
theorem dX11_wish_41 : decode cX11_wish 41 = .ok (.if_icmp .ne 7, 3) := by decide +kernel
theorem dX11_wish_44 : decode cX11_wish 44 = .ok (.iload_n 2, 1) := by decide +kernel
theorem dX11_wish_45 : decode cX11_wish 45 = .ok (.goto 12, 3) := by decide +kernel
theorem dX11_wish_48 : decode cX11_wish 48 = .ok (.aload_n 0, 1) := by decide +kernel
theorem dX11_wish_49 : decode cX11_wish 49 = .ok (.getfield 66, 3) := by decide +kernel
theorem dX11_wish_52 : decode cX11_wish 52 = .ok (.getfield 279, 3) := by decide +kernel
theorem dX11_wish_55 : decode cX11_wish 55 = .ok (.iload_n 1, 1) := by decide +kernel
theorem dX11_wish_56 : decode cX11_wish 56 = .ok (.iaload, 1) := by decide +kernel
theorem dX11_wish_57 : decode cX11_wish 57 = .ok (.ireturn, 1) := by decide +kernel
noncomputable def FX11_wish (a0 : Nat) (p1 : Int32) : PP Int32 := jn (fun (v3 : Unit) => bd (FX9_fewest (rf a0 8) (rf a0 5)) (fun x4 => if x4 = (-1 : Int32) then pu (-2 : Int32) else bd (if p1 = (-1 : Int32) then pu x4 else bd (aI (rf (rf a0 8) 1) 6 p1) (fun x5 => pu x5) : PP (Int32)) (fun (v6 : Int32) => pu v6))) (fun j1 => if p1 = (-1 : Int32) then j1 () else bd (FX7_hasCloth (rf a0 1) p1) (fun x2 => if ((b2i x2)) = 0 then pu (-2 : Int32) else j1 ()))
set_option maxHeartbeats 4000000 in
set_option maxRecDepth 100000 in
theorem SX11_wish {l : Launch} {K : KK} {n : Nat} {hn : 270 ≤ n} (a0 : Nat) (p1 : Int32) (h0 : ob a0 10) : CT l K n 42 mX11_wish [.ref (K.2.1 + a0), .int p1] enI (FX11_wish a0 p1) := by
  refine CT.of2 (lv2 := [(0, .ref (K.2.1 + a0)), (1, .int p1)]) (by decide) rfl hn (Nat.le_of_ble_eq_true rfl) rfl (rp_id ?_)
  unfold FX11_wish
  refine rp_iload_n 1 dX11_wish_0 rfl ?_
  refine rp_iconst (-1 : Int32) dX11_wish_1 (by decide) ?_
  refine rp_jn2 19 (fun (v3 : Unit) => [(0, .ref (K.2.1 + a0)), (1, .int p1)]) (fun v3 => []) (fun v3 => ?_) (fun hK19 => ?_)
  · refine rp_aload_n 0 dX11_wish_19 rfl ?_
    refine rp_getR fi_X11_66 h0 rfl dX11_wish_20 ?_
    refine rp_aload_n 0 dX11_wish_23 rfl ?_
    refine rp_getR fi_X11_47 h0 rfl dX11_wish_24 ?_
    refine rp_callVi [.ref (K.2.1 + (rf a0 5))] (SX9_fewest (hn := hn) (rf a0 8) (rf a0 5) (tX11_8 h0) (tX11_5 h0)) cvX9_fewest (mw (i := 1021) (by decide +kernel)) (by omega) (tX11_8 h0) (by decide) rfl rfl rfl (Nat.le_of_ble_eq_true rfl) dX11_wish_27 (fun x4 => ?_)
    refine rp_istore_n [(2, .int x4), (0, .ref (K.2.1 + a0)), (1, .int p1)] dX11_wish_30 (by decide) rfl ?_
    refine rp_iload_n 0 dX11_wish_31 rfl ?_
    refine rp_iconst (-1 : Int32) dX11_wish_32 (by decide) ?_
    refine rp_icmp_ne 39 dX11_wish_33 (by decide) ?_ ?_
    · refine rp_iload_n 2 dX11_wish_39 rfl ?_
      refine rp_iconst (-1 : Int32) dX11_wish_40 (by decide) ?_
      refine rp_as ?_
      refine rp_join 57 (fun (v6 : Int32) => []) (fun v6 => [.int v6]) (fun v6 => ?_) (fun hJ57 => ?_)
      · exact rp_pu (rp_iret rfl dX11_wish_57)
      refine rp_icmp_ne 48 dX11_wish_41 (by decide) ?_ ?_
      · refine rp_aload_n 1 dX11_wish_48 rfl ?_
        refine rp_getR fi_X11_66 h0 rfl dX11_wish_49 ?_
        refine rp_getR fi_X11_279 (tX11_8 h0) rfl dX11_wish_52 ?_
        refine rp_iload_n 2 dX11_wish_55 rfl ?_
        refine rp_iald (tX9_1 (tX11_8 h0)) dX11_wish_56 (fun x5 => ?_)
        exact rp_sub [] rfl (rp_pu (hJ57 x5))
      · refine rp_iload_n 0 dX11_wish_44 rfl ?_
        refine rp_goto 57 dX11_wish_45 (by decide) ?_
        exact rp_sub [] rfl (rp_pu (hJ57 x4))
    · refine rp_bipush (-2 : Int32) dX11_wish_36 (by decide) ?_
      exact rp_pu (rp_iret rfl dX11_wish_38)
  refine rp_icmp_eq 19 dX11_wish_2 (by decide) ?_ ?_
  · exact rp_sub [0, 1] rfl (hK19 ())
  · refine rp_aload_n 0 dX11_wish_5 rfl ?_
    refine rp_getR fi_X11_19 h0 rfl dX11_wish_6 ?_
    refine rp_iload_n 1 dX11_wish_9 rfl ?_
    refine rp_callVz [.int p1] (SX7_hasCloth (hn := hn) (rf a0 1) p1 (tX11_1 h0)) cvX7_hasCloth (mw (i := 796) (by decide +kernel)) (by omega) (tX11_1 h0) (by decide) rfl rfl rfl (Nat.le_of_ble_eq_true rfl) dX11_wish_10 (fun x2 => ?_)
    refine rp_if_ne 19 dX11_wish_13 (by decide) ?_ ?_
    · exact rp_sub [0, 1] rfl (hK19 ())
    · refine rp_bipush (-2 : Int32) dX11_wish_16 (by decide) ?_
      exact rp_pu (rp_iret rfl dX11_wish_18)

theorem dX11_pairs_0 : decode cX11_pairs 0 = .ok (.iload_n 1, 1) := by decide +kernel
theorem dX11_pairs_1 : decode cX11_pairs 1 = .ok (.ifCond .lt 8, 3) := by decide +kernel
theorem dX11_pairs_4 : decode cX11_pairs 4 = .ok (.iload_n 1, 1) := by decide +kernel
theorem dX11_pairs_5 : decode cX11_pairs 5 = .ok (.iconst 2, 1) := by decide +kernel
theorem dX11_pairs_6 : decode cX11_pairs 6 = .ok (.if_icmp .le 5, 3) := by decide +kernel
theorem dX11_pairs_9 : decode cX11_pairs 9 = .ok (.iconst (-1), 1) := by decide +kernel
theorem dX11_pairs_10 : decode cX11_pairs 10 = .ok (.ireturn, 1) := by decide +kernel
theorem dX11_pairs_11 : decode cX11_pairs 11 = .ok (.aload_n 0, 1) := by decide +kernel
theorem dX11_pairs_12 : decode cX11_pairs 12 = .ok (.getfield 73, 3) := by decide +kernel
theorem dX11_pairs_15 : decode cX11_pairs 15 = .ok (.aload_n 0, 1) := by decide +kernel
theorem dX11_pairs_16 : decode cX11_pairs 16 = .ok (.getfield 47, 3) := by decide +kernel
theorem dX11_pairs_19 : decode cX11_pairs 19 = .ok (.iconst 0, 1) := by decide +kernel
theorem dX11_pairs_20 : decode cX11_pairs 20 = .ok (.invokevirtual 285, 3) := by decide +kernel
theorem dX11_pairs_23 : decode cX11_pairs 23 = .ok (.iload_n 1, 1) := by decide +kernel
theorem dX11_pairs_24 : decode cX11_pairs 24 = .ok (.ifCond .ne 11, 3) := by decide +kernel
theorem dX11_pairs_27 : decode cX11_pairs 27 = .ok (.aload_n 0, 1) := by decide +kernel
theorem dX11_pairs_28 : decode cX11_pairs 28 = .ok (.getfield 73, 3) := by decide +kernel
theorem dX11_pairs_31 : decode cX11_pairs 31 = .ok (.getfield 289, 3) := by decide +kernel
theorem dX11_pairs_34 : decode cX11_pairs 34 = .ok (.ireturn, 1) := by decide +kernel
theorem dX11_pairs_35 : decode cX11_pairs 35 = .ok (.iload_n 1, 1) := by decide +kernel
theorem dX11_pairs_36 : decode cX11_pairs 36 = .ok (.iconst 1, 1) := by decide +kernel
theorem dX11_pairs_37 : decode cX11_pairs 37 = .ok (.if_icmp .ne 13, 3) := by decide +kernel
theorem dX11_pairs_40 : decode cX11_pairs 40 = .ok (.aload_n 0, 1) := by decide +kernel
theorem dX11_pairs_41 : decode cX11_pairs 41 = .ok (.getfield 73, 3) := by decide +kernel
theorem dX11_pairs_44 : decode cX11_pairs 44 = .ok (.getfield 292, 3) := by decide +kernel
theorem dX11_pairs_47 : decode cX11_pairs 47 = .ok (.goto 10, 3) := by decide +kernel
theorem dX11_pairs_50 : decode cX11_pairs 50 = .ok (.aload_n 0, 1) := by decide +kernel
theorem dX11_pairs_51 : decode cX11_pairs 51 = .ok (.getfield 73, 3) := by decide +kernel
theorem dX11_pairs_54 : decode cX11_pairs 54 = .ok (.getfield 295, 3) := by decide +kernel
theorem dX11_pairs_57 : decode cX11_pairs 57 = .ok (.ireturn, 1) := by decide +kernel
noncomputable def FX11_pairs (a0 : Nat) (p1 : Int32) : PP Int32 := if p1 < 0 then pu (-1 : Int32) else if p1 ≤ (2 : Int32) then bd (FX6_findPairs (rf a0 9) (rf a0 5) (0 : Int32)) (fun (_ : Unit) => if p1 = 0 then bd (gI (rf a0 9) 4) (fun x5 => pu x5) else bd (if p1 = (1 : Int32) then bd (gI (rf a0 9) 5) (fun x3 => pu x3) else bd (gI (rf a0 9) 6) (fun x2 => pu x2) : PP (Int32)) (fun (v4 : Int32) => pu v4)) else pu (-1 : Int32)
set_option maxHeartbeats 4000000 in
set_option maxRecDepth 100000 in
theorem SX11_pairs {l : Launch} {K : KK} {n : Nat} {hn : 270 ≤ n} (a0 : Nat) (p1 : Int32) (h0 : ob a0 10) : CT l K n 6 mX11_pairs [.ref (K.2.1 + a0), .int p1] enI (FX11_pairs a0 p1) := by
  refine CT.of2 (lv2 := [(0, .ref (K.2.1 + a0)), (1, .int p1)]) (by decide) rfl hn (Nat.le_of_ble_eq_true rfl) rfl (rp_id ?_)
  unfold FX11_pairs
  refine rp_iload_n 1 dX11_pairs_0 rfl ?_
  refine rp_if_lt 9 dX11_pairs_1 (by decide) ?_ ?_
  · refine rp_iconst (-1 : Int32) dX11_pairs_9 (by decide) ?_
    exact rp_pu (rp_iret rfl dX11_pairs_10)
  · refine rp_iload_n 1 dX11_pairs_4 rfl ?_
    refine rp_iconst (2 : Int32) dX11_pairs_5 (by decide) ?_
    refine rp_icmp_le 11 dX11_pairs_6 (by decide) ?_ ?_
    · refine rp_aload_n 0 dX11_pairs_11 rfl ?_
      refine rp_getR fi_X11_73 h0 rfl dX11_pairs_12 ?_
      refine rp_aload_n 0 dX11_pairs_15 rfl ?_
      refine rp_getR fi_X11_47 h0 rfl dX11_pairs_16 ?_
      refine rp_iconst (0 : Int32) dX11_pairs_19 (by decide) ?_
      refine rp_callVv [.ref (K.2.1 + (rf a0 5)), .int (0 : Int32)] (SX6_findPairs (hn := hn) (rf a0 9) (rf a0 5) (0 : Int32) (tX11_9 h0) (tX11_5 h0)) cvX6_findPairs (mw (i := 1078) (by decide +kernel)) (by omega) (tX11_9 h0) (by decide) rfl rfl rfl (Nat.le_of_ble_eq_true rfl) dX11_pairs_20 (fun x1 => ?_)
      refine rp_iload_n 1 dX11_pairs_23 rfl ?_
      refine rp_if_ne 35 dX11_pairs_24 (by decide) ?_ ?_
      · refine rp_iload_n 1 dX11_pairs_35 rfl ?_
        refine rp_iconst (1 : Int32) dX11_pairs_36 (by decide) ?_
        refine rp_as ?_
        refine rp_join 57 (fun (v4 : Int32) => []) (fun v4 => [.int v4]) (fun v4 => ?_) (fun hJ57 => ?_)
        · exact rp_pu (rp_iret rfl dX11_pairs_57)
        refine rp_icmp_ne 50 dX11_pairs_37 (by decide) ?_ ?_
        · refine rp_aload_n 0 dX11_pairs_50 rfl ?_
          refine rp_getR fi_X11_73 h0 rfl dX11_pairs_51 ?_
          refine rp_getI fi_X11_295 (tX11_9 h0) rfl dX11_pairs_54 (fun x2 => ?_)
          exact rp_sub [] rfl (rp_pu (hJ57 x2))
        · refine rp_aload_n 0 dX11_pairs_40 rfl ?_
          refine rp_getR fi_X11_73 h0 rfl dX11_pairs_41 ?_
          refine rp_getI fi_X11_292 (tX11_9 h0) rfl dX11_pairs_44 (fun x3 => ?_)
          refine rp_goto 57 dX11_pairs_47 (by decide) ?_
          exact rp_sub [] rfl (rp_pu (hJ57 x3))
      · refine rp_aload_n 0 dX11_pairs_27 rfl ?_
        refine rp_getR fi_X11_73 h0 rfl dX11_pairs_28 ?_
        refine rp_getI fi_X11_289 (tX11_9 h0) rfl dX11_pairs_31 (fun x5 => ?_)
        exact rp_pu (rp_iret rfl dX11_pairs_34)
    · refine rp_iconst (-1 : Int32) dX11_pairs_9 (by decide) ?_
      exact rp_pu (rp_iret rfl dX11_pairs_10)

theorem dX11_look_0 : decode cX11_look 0 = .ok (.iload_n 1, 1) := by decide +kernel
theorem dX11_look_1 : decode cX11_look 1 = .ok (.ifCond .lt 9, 3) := by decide +kernel
theorem dX11_look_4 : decode cX11_look 4 = .ok (.iload_n 1, 1) := by decide +kernel
theorem dX11_look_5 : decode cX11_look 5 = .ok (.bipush 12, 2) := by decide +kernel
theorem dX11_look_7 : decode cX11_look 7 = .ok (.if_icmp .le 5, 3) := by decide +kernel
theorem dX11_look_10 : decode cX11_look 10 = .ok (.iconst (-1), 1) := by decide +kernel
theorem dX11_look_11 : decode cX11_look 11 = .ok (.ireturn, 1) := by decide +kernel
theorem dX11_look_12 : decode cX11_look 12 = .ok (.aload_n 0, 1) := by decide +kernel
theorem dX11_look_13 : decode cX11_look 13 = .ok (.getfield 73, 3) := by decide +kernel
theorem dX11_look_16 : decode cX11_look 16 = .ok (.aload_n 0, 1) := by decide +kernel
theorem dX11_look_17 : decode cX11_look 17 = .ok (.getfield 47, 3) := by decide +kernel
theorem dX11_look_20 : decode cX11_look 20 = .ok (.iload_n 1, 1) := by decide +kernel
theorem dX11_look_21 : decode cX11_look 21 = .ok (.invokevirtual 285, 3) := by decide +kernel
theorem dX11_look_24 : decode cX11_look 24 = .ok (.aload_n 0, 1) := by decide +kernel
theorem dX11_look_25 : decode cX11_look 25 = .ok (.getfield 73, 3) := by decide +kernel
theorem dX11_look_28 : decode cX11_look 28 = .ok (.invokevirtual 298, 3) := by decide +kernel
theorem dX11_look_31 : decode cX11_look 31 = .ok (.ireturn, 1) := by decide +kernel
noncomputable def FX11_look (a0 : Nat) (p1 : Int32) : PP Int32 := if p1 < 0 then pu (-1 : Int32) else if p1 ≤ (12 : Int32) then bd (FX6_findPairs (rf a0 9) (rf a0 5) p1) (fun (_ : Unit) => bd (FX6_bestPlace (rf a0 9)) (fun x2 => pu x2)) else pu (-1 : Int32)
set_option maxHeartbeats 4000000 in
set_option maxRecDepth 100000 in
theorem SX11_look {l : Launch} {K : KK} {n : Nat} {hn : 270 ≤ n} (a0 : Nat) (p1 : Int32) (h0 : ob a0 10) : CT l K n 6 mX11_look [.ref (K.2.1 + a0), .int p1] enI (FX11_look a0 p1) := by
  refine CT.of2 (lv2 := [(0, .ref (K.2.1 + a0)), (1, .int p1)]) (by decide) rfl hn (Nat.le_of_ble_eq_true rfl) rfl (rp_id ?_)
  unfold FX11_look
  refine rp_iload_n 1 dX11_look_0 rfl ?_
  refine rp_if_lt 10 dX11_look_1 (by decide) ?_ ?_
  · refine rp_iconst (-1 : Int32) dX11_look_10 (by decide) ?_
    exact rp_pu (rp_iret rfl dX11_look_11)
  · refine rp_iload_n 1 dX11_look_4 rfl ?_
    refine rp_bipush (12 : Int32) dX11_look_5 (by decide) ?_
    refine rp_icmp_le 12 dX11_look_7 (by decide) ?_ ?_
    · refine rp_aload_n 0 dX11_look_12 rfl ?_
      refine rp_getR fi_X11_73 h0 rfl dX11_look_13 ?_
      refine rp_aload_n 0 dX11_look_16 rfl ?_
      refine rp_getR fi_X11_47 h0 rfl dX11_look_17 ?_
      refine rp_iload_n 1 dX11_look_20 rfl ?_
      refine rp_callVv [.ref (K.2.1 + (rf a0 5)), .int p1] (SX6_findPairs (hn := hn) (rf a0 9) (rf a0 5) p1 (tX11_9 h0) (tX11_5 h0)) cvX6_findPairs (mw (i := 1078) (by decide +kernel)) (by omega) (tX11_9 h0) (by decide) rfl rfl rfl (Nat.le_of_ble_eq_true rfl) dX11_look_21 (fun x1 => ?_)
      refine rp_aload_n 0 dX11_look_24 rfl ?_
      refine rp_getR fi_X11_73 h0 rfl dX11_look_25 ?_
      refine rp_callVi [] (SX6_bestPlace (hn := hn) (rf a0 9) (tX11_9 h0)) cvX6_bestPlace (mw (i := 1105) (by decide +kernel)) (by omega) (tX11_9 h0) (by decide) rfl rfl rfl (Nat.le_of_ble_eq_true rfl) dX11_look_28 (fun x2 => ?_)
      exact rp_pu (rp_iret rfl dX11_look_31)
    · refine rp_iconst (-1 : Int32) dX11_look_10 (by decide) ?_
      exact rp_pu (rp_iret rfl dX11_look_11)

theorem dX11_isWeather_0 : decode cX11_isWeather 0 = .ok (.iload_n 0, 1) := by decide +kernel
theorem dX11_isWeather_1 : decode cX11_isWeather 1 = .ok (.iconst (-1), 1) := by decide +kernel
theorem dX11_isWeather_2 : decode cX11_isWeather 2 = .ok (.if_icmp .lt 12, 3) := by decide +kernel
theorem dX11_isWeather_5 : decode cX11_isWeather 5 = .ok (.iload_n 0, 1) := by decide +kernel
theorem dX11_isWeather_6 : decode cX11_isWeather 6 = .ok (.iconst 4, 1) := by decide +kernel
theorem dX11_isWeather_7 : decode cX11_isWeather 7 = .ok (.if_icmp .ge 7, 3) := by decide +kernel
theorem dX11_isWeather_10 : decode cX11_isWeather 10 = .ok (.iconst 1, 1) := by decide +kernel
theorem dX11_isWeather_11 : decode cX11_isWeather 11 = .ok (.goto 4, 3) := by decide +kernel
theorem dX11_isWeather_14 : decode cX11_isWeather 14 = .ok (.iconst 0, 1) := by decide +kernel
theorem dX11_isWeather_15 : decode cX11_isWeather 15 = .ok (.ireturn, 1) := by decide +kernel
noncomputable def FX11_isWeather (p1 : Int32) : PP Bool := bd (if p1 < (-1 : Int32) then pu (0 : Int32) else if (4 : Int32) ≤ p1 then pu (0 : Int32) else pu (1 : Int32) : PP (Int32)) (fun (v1 : Int32) => zb v1)
set_option maxHeartbeats 4000000 in
set_option maxRecDepth 100000 in
theorem SX11_isWeather {l : Launch} {K : KK} {n : Nat} {hn : 270 ≤ n} (p1 : Int32) : CT l K n 0 mX11_isWeather [.int p1] enZ (FX11_isWeather p1) := by
  refine CT.of2 (lv2 := [(0, .int p1)]) (by decide) rfl hn (Nat.le_of_ble_eq_true rfl) rfl (rp_id ?_)
  unfold FX11_isWeather
  refine rp_iload_n 0 dX11_isWeather_0 rfl ?_
  refine rp_iconst (-1 : Int32) dX11_isWeather_1 (by decide) ?_
  refine rp_as ?_
  refine rp_join 15 (fun (v1 : Int32) => []) (fun v1 => [.int v1]) (fun v1 => ?_) (fun hJ15 => ?_)
  · exact rp_zretb rfl dX11_isWeather_15
  refine rp_icmp_lt 14 dX11_isWeather_2 (by decide) ?_ ?_
  · refine rp_iconst (0 : Int32) dX11_isWeather_14 (by decide) ?_
    exact rp_sub [] rfl (rp_pu (hJ15 (0 : Int32)))
  · refine rp_iload_n 0 dX11_isWeather_5 rfl ?_
    refine rp_iconst (4 : Int32) dX11_isWeather_6 (by decide) ?_
    refine rp_icmp_ge 14 dX11_isWeather_7 (by decide) ?_ ?_
    · refine rp_iconst (0 : Int32) dX11_isWeather_14 (by decide) ?_
      exact rp_sub [] rfl (rp_pu (hJ15 (0 : Int32)))
    · refine rp_iconst (1 : Int32) dX11_isWeather_10 (by decide) ?_
      refine rp_goto 15 dX11_isWeather_11 (by decide) ?_
      exact rp_sub [] rfl (rp_pu (hJ15 (1 : Int32)))

theorem dX11_want_0 : decode cX11_want 0 = .ok (.aload_n 0, 1) := by decide +kernel
theorem dX11_want_1 : decode cX11_want 1 = .ok (.getfield 19, 3) := by decide +kernel
theorem dX11_want_4 : decode cX11_want 4 = .ok (.iload_n 1, 1) := by decide +kernel
theorem dX11_want_5 : decode cX11_want 5 = .ok (.invokevirtual 167, 3) := by decide +kernel
theorem dX11_want_8 : decode cX11_want 8 = .ok (.ifCond .eq 10, 3) := by decide +kernel
theorem dX11_want_11 : decode cX11_want 11 = .ok (.iload_n 2, 1) := by decide +kernel
theorem dX11_want_12 : decode cX11_want 12 = .ok (.invokestatic 269, 3) := by decide +kernel
theorem dX11_want_15 : decode cX11_want 15 = .ok (.ifCond .ne 5, 3) := by decide +kernel
theorem dX11_want_18 : decode cX11_want 18 = .ok (.iconst 0, 1) := by decide +kernel
theorem dX11_want_19 : decode cX11_want 19 = .ok (.ireturn, 1) := by decide +kernel
theorem dX11_want_20 : decode cX11_want 20 = .ok (.aload_n 0, 1) := by decide +kernel
theorem dX11_want_21 : decode cX11_want 21 = .ok (.getfield 66, 3) := by decide +kernel
theorem dX11_want_24 : decode cX11_want 24 = .ok (.getfield 272, 3) := by decide +kernel
theorem dX11_want_27 : decode cX11_want 27 = .ok (.iload_n 1, 1) := by decide +kernel
theorem dX11_want_28 : decode cX11_want 28 = .ok (.iload_n 2, 1) := by decide +kernel
theorem dX11_want_29 : decode cX11_want 29 = .ok (.iastore, 1) := by decide +kernel
theorem dX11_want_30 : decode cX11_want 30 = .ok (.iconst 1, 1) := by decide +kernel
theorem dX11_want_31 : decode cX11_want 31 = .ok (.ireturn, 1) := by decide +kernel
noncomputable def FX11_want (a0 : Nat) (p1 : Int32) (p2 : Int32) : PP Bool := bd (FX7_hasPlace (rf a0 1) p1) (fun x1 => if ((b2i x1)) = 0 then zb (0 : Int32) else bd (FX11_isWeather p2) (fun x2 => if ((b2i x2)) = 0 then zb (0 : Int32) else bd (uI (rf (rf a0 8) 0) 4 p1 p2) (fun (_ : Unit) => zb (1 : Int32))))
set_option maxHeartbeats 4000000 in
set_option maxRecDepth 100000 in
theorem SX11_want {l : Launch} {K : KK} {n : Nat} {hn : 270 ≤ n} (a0 : Nat) (p1 : Int32) (p2 : Int32) (h0 : ob a0 10) : CT l K n 1 mX11_want [.ref (K.2.1 + a0), .int p1, .int p2] enZ (FX11_want a0 p1 p2) := by
  refine CT.of2 (lv2 := [(0, .ref (K.2.1 + a0)), (1, .int p1), (2, .int p2)]) (by decide) rfl hn (Nat.le_of_ble_eq_true rfl) rfl (rp_id ?_)
  unfold FX11_want
  refine rp_aload_n 0 dX11_want_0 rfl ?_
  refine rp_getR fi_X11_19 h0 rfl dX11_want_1 ?_
  refine rp_iload_n 1 dX11_want_4 rfl ?_
  refine rp_callVz [.int p1] (SX7_hasPlace (hn := hn) (rf a0 1) p1 (tX11_1 h0)) cvX7_hasPlace (mw (i := 804) (by decide +kernel)) (by omega) (tX11_1 h0) (by decide) rfl rfl rfl (Nat.le_of_ble_eq_true rfl) dX11_want_5 (fun x1 => ?_)
  refine rp_if_eq 18 dX11_want_8 (by decide) ?_ ?_
  · refine rp_iconst (0 : Int32) dX11_want_18 (by decide) ?_
    exact rp_zretb rfl dX11_want_19
  · refine rp_iload_n 2 dX11_want_11 rfl ?_
    refine rp_callSz [.int p2] (SX11_isWeather (hn := hn) p2) csX11_isWeather (mw (i := 1014) (by decide +kernel)) (by omega) rfl rfl (Nat.le_of_ble_eq_true rfl) dX11_want_12 (fun x2 => ?_)
    refine rp_if_ne 20 dX11_want_15 (by decide) ?_ ?_
    · refine rp_aload_n 0 dX11_want_20 rfl ?_
      refine rp_getR fi_X11_66 h0 rfl dX11_want_21 ?_
      refine rp_getR fi_X11_272 (tX11_8 h0) rfl dX11_want_24 ?_
      refine rp_iload_n 1 dX11_want_27 rfl ?_
      refine rp_iload_n 2 dX11_want_28 rfl ?_
      refine rp_iast (tX9_0 (tX11_8 h0)) dX11_want_29 ?_
      refine rp_iconst (1 : Int32) dX11_want_30 (by decide) ?_
      exact rp_zretb rfl dX11_want_31
    · refine rp_iconst (0 : Int32) dX11_want_18 (by decide) ?_
      exact rp_zretb rfl dX11_want_19

theorem dX11_tell_0 : decode cX11_tell 0 = .ok (.aload_n 0, 1) := by decide +kernel
theorem dX11_tell_1 : decode cX11_tell 1 = .ok (.getfield 19, 3) := by decide +kernel
theorem dX11_tell_4 : decode cX11_tell 4 = .ok (.iload_n 1, 1) := by decide +kernel
theorem dX11_tell_5 : decode cX11_tell 5 = .ok (.invokevirtual 167, 3) := by decide +kernel
theorem dX11_tell_8 : decode cX11_tell 8 = .ok (.ifCond .eq 20, 3) := by decide +kernel
theorem dX11_tell_11 : decode cX11_tell 11 = .ok (.iload_n 2, 1) := by decide +kernel
theorem dX11_tell_12 : decode cX11_tell 12 = .ok (.ifCond .lt 16, 3) := by decide +kernel
theorem dX11_tell_15 : decode cX11_tell 15 = .ok (.iload_n 2, 1) := by decide +kernel
theorem dX11_tell_16 : decode cX11_tell 16 = .ok (.bipush 12, 2) := by decide +kernel
theorem dX11_tell_18 : decode cX11_tell 18 = .ok (.if_icmp .gt 10, 3) := by decide +kernel
theorem dX11_tell_21 : decode cX11_tell 21 = .ok (.iload_n 3, 1) := by decide +kernel
theorem dX11_tell_22 : decode cX11_tell 22 = .ok (.invokestatic 269, 3) := by decide +kernel
theorem dX11_tell_25 : decode cX11_tell 25 = .ok (.ifCond .ne 5, 3) := by decide +kernel
theorem dX11_tell_28 : decode cX11_tell 28 = .ok (.iconst 0, 1) := by decide +kernel
theorem dX11_tell_29 : decode cX11_tell 29 = .ok (.ireturn, 1) := by decide +kernel
theorem dX11_tell_30 : decode cX11_tell 30 = .ok (.aload_n 0, 1) := by decide +kernel
theorem dX11_tell_31 : decode cX11_tell 31 = .ok (.getfield 73, 3) := by decide +kernel
theorem dX11_tell_34 : decode cX11_tell 34 = .ok (.iload_n 1, 1) := by decide +kernel
theorem dX11_tell_35 : decode cX11_tell 35 = .ok (.iload_n 2, 1) := by decide +kernel
theorem dX11_tell_36 : decode cX11_tell 36 = .ok (.iload_n 3, 1) := by decide +kernel
theorem dX11_tell_37 : decode cX11_tell 37 = .ok (.invokevirtual 282, 3) := by decide +kernel
theorem dX11_tell_40 : decode cX11_tell 40 = .ok (.ireturn, 1) := by decide +kernel
noncomputable def FX11_tell (a0 : Nat) (p1 : Int32) (p2 : Int32) (p3 : Int32) : PP Bool := bd (FX7_hasPlace (rf a0 1) p1) (fun x1 => if ((b2i x1)) = 0 then zb (0 : Int32) else if p2 < 0 then zb (0 : Int32) else if (12 : Int32) < p2 then zb (0 : Int32) else bd (FX11_isWeather p3) (fun x2 => if ((b2i x2)) = 0 then zb (0 : Int32) else bd (FX6_add (rf a0 9) p1 p2 p3) (fun x3 => zb ((b2i x3)))))
set_option maxHeartbeats 4000000 in
set_option maxRecDepth 100000 in
theorem SX11_tell {l : Launch} {K : KK} {n : Nat} {hn : 270 ≤ n} (a0 : Nat) (p1 : Int32) (p2 : Int32) (p3 : Int32) (h0 : ob a0 10) : CT l K n 1 mX11_tell [.ref (K.2.1 + a0), .int p1, .int p2, .int p3] enZ (FX11_tell a0 p1 p2 p3) := by
  refine CT.of2 (lv2 := [(0, .ref (K.2.1 + a0)), (1, .int p1), (2, .int p2), (3, .int p3)]) (by decide) rfl hn (Nat.le_of_ble_eq_true rfl) rfl (rp_id ?_)
  unfold FX11_tell
  refine rp_aload_n 0 dX11_tell_0 rfl ?_
  refine rp_getR fi_X11_19 h0 rfl dX11_tell_1 ?_
  refine rp_iload_n 1 dX11_tell_4 rfl ?_
  refine rp_callVz [.int p1] (SX7_hasPlace (hn := hn) (rf a0 1) p1 (tX11_1 h0)) cvX7_hasPlace (mw (i := 804) (by decide +kernel)) (by omega) (tX11_1 h0) (by decide) rfl rfl rfl (Nat.le_of_ble_eq_true rfl) dX11_tell_5 (fun x1 => ?_)
  refine rp_if_eq 28 dX11_tell_8 (by decide) ?_ ?_
  · refine rp_iconst (0 : Int32) dX11_tell_28 (by decide) ?_
    exact rp_zretb rfl dX11_tell_29
  · refine rp_iload_n 2 dX11_tell_11 rfl ?_
    refine rp_if_lt 28 dX11_tell_12 (by decide) ?_ ?_
    · refine rp_iconst (0 : Int32) dX11_tell_28 (by decide) ?_
      exact rp_zretb rfl dX11_tell_29
    · refine rp_iload_n 2 dX11_tell_15 rfl ?_
      refine rp_bipush (12 : Int32) dX11_tell_16 (by decide) ?_
      refine rp_icmp_gt 28 dX11_tell_18 (by decide) ?_ ?_
      · refine rp_iconst (0 : Int32) dX11_tell_28 (by decide) ?_
        exact rp_zretb rfl dX11_tell_29
      · refine rp_iload_n 3 dX11_tell_21 rfl ?_
        refine rp_callSz [.int p3] (SX11_isWeather (hn := hn) p3) csX11_isWeather (mw (i := 1014) (by decide +kernel)) (by omega) rfl rfl (Nat.le_of_ble_eq_true rfl) dX11_tell_22 (fun x2 => ?_)
        refine rp_if_ne 30 dX11_tell_25 (by decide) ?_ ?_
        · refine rp_aload_n 0 dX11_tell_30 rfl ?_
          refine rp_getR fi_X11_73 h0 rfl dX11_tell_31 ?_
          refine rp_iload_n 1 dX11_tell_34 rfl ?_
          refine rp_iload_n 2 dX11_tell_35 rfl ?_
          refine rp_iload_n 3 dX11_tell_36 rfl ?_
          refine rp_callVz [.int p1, .int p2, .int p3] (SX6_add (hn := hn) (rf a0 9) p1 p2 p3 (tX11_9 h0)) cvX6_add (mw (i := 1070) (by decide +kernel)) (by omega) (tX11_9 h0) (by decide) rfl rfl rfl (Nat.le_of_ble_eq_true rfl) dX11_tell_37 (fun x3 => ?_)
          exact rp_zretb rfl dX11_tell_40
        · refine rp_iconst (0 : Int32) dX11_tell_28 (by decide) ?_
          exact rp_zretb rfl dX11_tell_29

theorem dX11_crossings_0 : decode cX11_crossings 0 = .ok (.iconst 0, 1) := by decide +kernel
theorem dX11_crossings_1 : decode cX11_crossings 1 = .ok (.istore_n 2, 1) := by decide +kernel
theorem dX11_crossings_2 : decode cX11_crossings 2 = .ok (.iconst 0, 1) := by decide +kernel
theorem dX11_crossings_3 : decode cX11_crossings 3 = .ok (.istore_n 3, 1) := by decide +kernel
theorem dX11_crossings_4 : decode cX11_crossings 4 = .ok (.iload_n 3, 1) := by decide +kernel
theorem dX11_crossings_5 : decode cX11_crossings 5 = .ok (.aload_n 0, 1) := by decide +kernel
theorem dX11_crossings_6 : decode cX11_crossings 6 = .ok (.getfield 19, 3) := by decide +kernel
theorem dX11_crossings_9 : decode cX11_crossings 9 = .ok (.getfield 183, 3) := by decide +kernel
theorem dX11_crossings_12 : decode cX11_crossings 12 = .ok (.if_icmp .ge 80, 3) := by decide +kernel
theorem dX11_crossings_15 : decode cX11_crossings 15 = .ok (.iload_n 3, 1) := by decide +kernel
theorem dX11_crossings_16 : decode cX11_crossings 16 = .ok (.iconst 1, 1) := by decide +kernel
theorem dX11_crossings_17 : decode cX11_crossings 17 = .ok (.iadd, 1) := by decide +kernel
theorem dX11_crossings_18 : decode cX11_crossings 18 = .ok (.istore 4, 2) := by decide +kernel
theorem dX11_crossings_20 : decode cX11_crossings 20 = .ok (.iload 4, 2) := by decide +kernel
theorem dX11_crossings_22 : decode cX11_crossings 22 = .ok (.aload_n 0, 1) := by decide +kernel
theorem dX11_crossings_23 : decode cX11_crossings 23 = .ok (.getfield 19, 3) := by decide +kernel
theorem dX11_crossings_26 : decode cX11_crossings 26 = .ok (.getfield 183, 3) := by decide +kernel
theorem dX11_crossings_29 : decode cX11_crossings 29 = .ok (.if_icmp .ge 57, 3) := by decide +kernel
theorem dX11_crossings_32 : decode cX11_crossings 32 = .ok (.aload_n 0, 1) := by decide +kernel
theorem dX11_crossings_33 : decode cX11_crossings 33 = .ok (.getfield 19, 3) := by decide +kernel
theorem dX11_crossings_36 : decode cX11_crossings 36 = .ok (.getfield 146, 3) := by decide +kernel
theorem dX11_crossings_39 : decode cX11_crossings 39 = .ok (.iload_n 3, 1) := by decide +kernel
theorem dX11_crossings_40 : decode cX11_crossings 40 = .ok (.iaload, 1) := by decide +kernel
theorem dX11_crossings_41 : decode cX11_crossings 41 = .ok (.iload 4, 2) := by decide +kernel
theorem dX11_crossings_43 : decode cX11_crossings 43 = .ok (.ishr, 1) := by decide +kernel
theorem dX11_crossings_44 : decode cX11_crossings 44 = .ok (.iconst 1, 1) := by decide +kernel
theorem dX11_crossings_45 : decode cX11_crossings 45 = .ok (.iand, 1) := by decide +kernel
theorem dX11_crossings_46 : decode cX11_crossings 46 = .ok (.iconst 1, 1) := by decide +kernel
theorem dX11_crossings_47 : decode cX11_crossings 47 = .ok (.if_icmp .ne 33, 3) := by decide +kernel
theorem dX11_crossings_50 : decode cX11_crossings 50 = .ok (.aload_n 0, 1) := by decide +kernel
theorem dX11_crossings_51 : decode cX11_crossings 51 = .ok (.getfield 47, 3) := by decide +kernel
theorem dX11_crossings_54 : decode cX11_crossings 54 = .ok (.iload_n 3, 1) := by decide +kernel
theorem dX11_crossings_55 : decode cX11_crossings 55 = .ok (.iload 4, 2) := by decide +kernel
theorem dX11_crossings_57 : decode cX11_crossings 57 = .ok (.invokevirtual 304, 3) := by decide +kernel
theorem dX11_crossings_60 : decode cX11_crossings 60 = .ok (.ifCond .eq 20, 3) := by decide +kernel
theorem dX11_crossings_63 : decode cX11_crossings 63 = .ok (.aload_n 0, 1) := by decide +kernel
theorem dX11_crossings_64 : decode cX11_crossings 64 = .ok (.getfield 47, 3) := by decide +kernel
theorem dX11_crossings_67 : decode cX11_crossings 67 = .ok (.iload_n 3, 1) := by decide +kernel
theorem dX11_crossings_68 : decode cX11_crossings 68 = .ok (.iload 4, 2) := by decide +kernel
theorem dX11_crossings_70 : decode cX11_crossings 70 = .ok (.invokevirtual 308, 3) := by decide +kernel
theorem dX11_crossings_73 : decode cX11_crossings 73 = .ok (.iload_n 1, 1) := by decide +kernel
theorem dX11_crossings_74 : decode cX11_crossings 74 = .ok (.if_icmp .ne 6, 3) := by decide +kernel
theorem dX11_crossings_77 : decode cX11_crossings 77 = .ok (.iinc 2 1, 3) := by decide +kernel
theorem dX11_crossings_80 : decode cX11_crossings 80 = .ok (.iinc 4 1, 3) := by decide +kernel
theorem dX11_crossings_83 : decode cX11_crossings 83 = .ok (.goto (-63), 3) := by decide +kernel
theorem dX11_crossings_86 : decode cX11_crossings 86 = .ok (.iinc 3 1, 3) := by decide +kernel
theorem dX11_crossings_89 : decode cX11_crossings 89 = .ok (.goto (-85), 3) := by decide +kernel
theorem dX11_crossings_92 : decode cX11_crossings 92 = .ok (.iload_n 2, 1) := by decide +kernel
theorem dX11_crossings_93 : decode cX11_crossings 93 = .ok (.ireturn, 1) := by decide +kernel
noncomputable def FX11_crossings (a0 : Nat) (p1 : Int32) : PP Int32 := bd (it (fun (s1 : Int32 × Int32) => (bd (gI (rf a0 1) 9) (fun x2 => if x2 ≤ s1.2 then pu (Sum.inr s1.1) else lt (s1.2 + (1 : Int32)) (fun y3 => bd (it (fun (s4 : Int32 × Int32) => (bd (gI (rf a0 1) 9) (fun x5 => if x5 ≤ s4.2 then pu (Sum.inr s4.1) else bd (aI (rf (rf a0 1) 4) 5 s1.2) (fun x6 => bd (if ((x6 >>> (s4.2 &&& 31)) &&& (1 : Int32)) = (1 : Int32) then bd (FX4_bothWet (rf a0 5) s1.2 s4.2) (fun x7 => if ((b2i x7)) = 0 then pu s4.1 else bd (FX4_isRainbow (rf a0 5) s1.2 s4.2) (fun x8 => if ((b2i x8)) = p1 then lt (s4.1 + (1 : Int32)) (fun y9 => pu y9) else pu s4.1)) else pu s4.1 : PP (Int32)) (fun (v10 : Int32) => lt (s4.2 + (1 : Int32)) (fun y11 => pu (Sum.inl (v10, y11)))))) : PP ((Int32 × Int32) ⊕ (Int32)))) FU (s1.1, y3)) (fun (v12 : Int32) => lt (s1.2 + (1 : Int32)) (fun y13 => pu (Sum.inl (v12, y13)))))) : PP ((Int32 × Int32) ⊕ (Int32)))) FU ((0 : Int32), (0 : Int32))) (fun (v14 : Int32) => pu v14)
set_option maxHeartbeats 4000000 in
set_option maxRecDepth 100000 in
theorem SX11_crossings {l : Launch} {K : KK} {n : Nat} {hn : 270 ≤ n} (a0 : Nat) (p1 : Int32) (h0 : ob a0 10) : CT l K n 2 mX11_crossings [.ref (K.2.1 + a0), .int p1] enI (FX11_crossings a0 p1) := by
  refine CT.of2 (lv2 := [(0, .ref (K.2.1 + a0)), (1, .int p1)]) (by decide) rfl hn (Nat.le_of_ble_eq_true rfl) rfl (rp_id ?_)
  unfold FX11_crossings
  refine rp_iconst (0 : Int32) dX11_crossings_0 (by decide) ?_
  refine rp_istore_n [(2, .int (0 : Int32)), (0, .ref (K.2.1 + a0)), (1, .int p1)] dX11_crossings_1 (by decide) rfl ?_
  refine rp_iconst (0 : Int32) dX11_crossings_2 (by decide) ?_
  refine rp_istore_n [(3, .int (0 : Int32)), (2, .int (0 : Int32)), (0, .ref (K.2.1 + a0)), (1, .int p1)] dX11_crossings_3 (by decide) rfl ?_
  refine rp_as ?_
  refine rp_join 92 (fun v14 => [(2, .int v14)]) (fun _ => []) (fun v14 => ?_) (fun hX4_0 => ?_)
  · refine rp_iload_n 0 dX11_crossings_92 rfl ?_
    exact rp_pu (rp_iret rfl dX11_crossings_93)
  refine rp_sub [2, 3, 1, 0] rfl (rp_it (fun (s1 : Int32 × Int32) => [(0, .ref (K.2.1 + a0)), (1, .int p1), (2, .int s1.1), (3, .int s1.2)]) (fun N4 ih4 s1 => ?_) FU ((0 : Int32), (0 : Int32)))
  refine rp_iload_n 3 dX11_crossings_4 rfl ?_
  refine rp_aload_n 0 dX11_crossings_5 rfl ?_
  refine rp_getR fi_X11_19 h0 rfl dX11_crossings_6 ?_
  refine rp_getI fi_X11_183 (tX11_1 h0) rfl dX11_crossings_9 (fun x2 => ?_)
  refine rp_icmp_ge 92 dX11_crossings_12 (by decide) ?_ ?_
  · exact rp_sub [2] rfl (rp_puR (hX4_0 s1.1))
  · refine rp_iload_n 3 dX11_crossings_15 rfl ?_
    refine rp_iconst (1 : Int32) dX11_crossings_16 (by decide) ?_
    refine rp_iadd dX11_crossings_17 ?_
    refine rp_lti (fun y3 => ?_)
    refine rp_istore [(4, .int y3), (0, .ref (K.2.1 + a0)), (1, .int p1), (2, .int s1.1), (3, .int s1.2)] dX11_crossings_18 (by decide) rfl ?_
    refine rp_as ?_
    refine rp_join 86 (fun v12 => [(0, .ref (K.2.1 + a0)), (1, .int p1), (2, .int v12), (3, .int s1.2)]) (fun _ => []) (fun v12 => ?_) (fun hX20_0 => ?_)
    · refine rp_iinc (fun y13 => [(3, .int y13), (0, .ref (K.2.1 + a0)), (1, .int p1), (2, .int v12)]) 3 dX11_crossings_86 rfl (by rfl) (by decide) (fun y13 => rfl) (fun y13 => ?_)
      refine rp_goto 4 dX11_crossings_89 (by decide) ?_
      exact rp_sub [1, 2, 3, 0] rfl (ih4 (v12, y13))
    refine rp_sub [1, 2, 3, 4, 0] rfl (rp_it (fun (s4 : Int32 × Int32) => [(0, .ref (K.2.1 + a0)), (1, .int p1), (2, .int s4.1), (3, .int s1.2), (4, .int s4.2)]) (fun N20 ih20 s4 => ?_) FU (s1.1, y3))
    refine rp_iload 4 dX11_crossings_20 rfl ?_
    refine rp_aload_n 0 dX11_crossings_22 rfl ?_
    refine rp_getR fi_X11_19 h0 rfl dX11_crossings_23 ?_
    refine rp_getI fi_X11_183 (tX11_1 h0) rfl dX11_crossings_26 (fun x5 => ?_)
    refine rp_icmp_ge 86 dX11_crossings_29 (by decide) ?_ ?_
    · exact rp_sub [0, 1, 2, 3] rfl (rp_puR (hX20_0 s4.1))
    · refine rp_aload_n 0 dX11_crossings_32 rfl ?_
      refine rp_getR fi_X11_19 h0 rfl dX11_crossings_33 ?_
      refine rp_getR fi_X11_146 (tX11_1 h0) rfl dX11_crossings_36 ?_
      refine rp_iload_n 3 dX11_crossings_39 rfl ?_
      refine rp_iald (tX7_4 (tX11_1 h0)) dX11_crossings_40 (fun x6 => ?_)
      refine rp_iload 4 dX11_crossings_41 rfl ?_
      refine rp_ishr dX11_crossings_43 ?_
      refine rp_iconst (1 : Int32) dX11_crossings_44 (by decide) ?_
      refine rp_iand dX11_crossings_45 ?_
      refine rp_iconst (1 : Int32) dX11_crossings_46 (by decide) ?_
      refine rp_as ?_
      refine rp_join 80 (fun (v10 : Int32) => [(0, .ref (K.2.1 + a0)), (1, .int p1), (2, .int v10), (3, .int s1.2), (4, .int s4.2)]) (fun v10 => []) (fun v10 => ?_) (fun hJ80 => ?_)
      · refine rp_iinc (fun y11 => [(4, .int y11), (0, .ref (K.2.1 + a0)), (1, .int p1), (2, .int v10), (3, .int s1.2)]) 4 dX11_crossings_80 rfl (by rfl) (by decide) (fun y11 => rfl) (fun y11 => ?_)
        refine rp_goto 20 dX11_crossings_83 (by decide) ?_
        exact rp_sub [1, 2, 3, 4, 0] rfl (ih20 (v10, y11))
      refine rp_icmp_ne 80 dX11_crossings_47 (by decide) ?_ ?_
      · exact rp_sub [0, 1, 2, 3, 4] rfl (rp_pu (hJ80 s4.1))
      · refine rp_aload_n 0 dX11_crossings_50 rfl ?_
        refine rp_getR fi_X11_47 h0 rfl dX11_crossings_51 ?_
        refine rp_iload_n 3 dX11_crossings_54 rfl ?_
        refine rp_iload 4 dX11_crossings_55 rfl ?_
        refine rp_callVz [.int s1.2, .int s4.2] (SX4_bothWet (hn := hn) (rf a0 5) s1.2 s4.2 (tX11_5 h0)) cvX4_bothWet (mw (i := 1117) (by decide +kernel)) (by omega) (tX11_5 h0) (by decide) rfl rfl rfl (Nat.le_of_ble_eq_true rfl) dX11_crossings_57 (fun x7 => ?_)
        refine rp_if_eq 80 dX11_crossings_60 (by decide) ?_ ?_
        · exact rp_sub [0, 1, 2, 3, 4] rfl (rp_pu (hJ80 s4.1))
        · refine rp_aload_n 0 dX11_crossings_63 rfl ?_
          refine rp_getR fi_X11_47 h0 rfl dX11_crossings_64 ?_
          refine rp_iload_n 3 dX11_crossings_67 rfl ?_
          refine rp_iload 4 dX11_crossings_68 rfl ?_
          refine rp_callVz [.int s1.2, .int s4.2] (SX4_isRainbow (hn := hn) (rf a0 5) s1.2 s4.2 (tX11_5 h0)) cvX4_isRainbow (mw (i := 1125) (by decide +kernel)) (by omega) (tX11_5 h0) (by decide) rfl rfl rfl (Nat.le_of_ble_eq_true rfl) dX11_crossings_70 (fun x8 => ?_)
          refine rp_iload_n 1 dX11_crossings_73 rfl ?_
          refine rp_icmp_ne 80 dX11_crossings_74 (by decide) ?_ ?_
          · exact rp_sub [0, 1, 2, 3, 4] rfl (rp_pu (hJ80 s4.1))
          · refine rp_iinc (fun y9 => [(2, .int y9), (0, .ref (K.2.1 + a0)), (1, .int p1), (3, .int s1.2), (4, .int s4.2)]) 2 dX11_crossings_77 rfl (by rfl) (by decide) (fun y9 => rfl) (fun y9 => ?_)
            exact rp_sub [1, 2, 0, 3, 4] rfl (rp_pu (hJ80 y9))

theorem dX11_rainbows_0 : decode cX11_rainbows 0 = .ok (.aload_n 0, 1) := by decide +kernel
theorem dX11_rainbows_1 : decode cX11_rainbows 1 = .ok (.iconst 1, 1) := by decide +kernel
theorem dX11_rainbows_2 : decode cX11_rainbows 2 = .ok (.invokevirtual 301, 3) := by decide +kernel
theorem dX11_rainbows_5 : decode cX11_rainbows 5 = .ok (.ireturn, 1) := by decide +kernel
noncomputable def FX11_rainbows (a0 : Nat) : PP Int32 := bd (FX11_crossings a0 (1 : Int32)) (fun x1 => pu x1)
set_option maxHeartbeats 4000000 in
set_option maxRecDepth 100000 in
theorem SX11_rainbows {l : Launch} {K : KK} {n : Nat} {hn : 270 ≤ n} (a0 : Nat) (h0 : ob a0 10) : CT l K n 3 mX11_rainbows [.ref (K.2.1 + a0)] enI (FX11_rainbows a0) := by
  refine CT.of2 (lv2 := [(0, .ref (K.2.1 + a0))]) (by decide) rfl hn (Nat.le_of_ble_eq_true rfl) rfl (rp_id ?_)
  unfold FX11_rainbows
  refine rp_aload_n 0 dX11_rainbows_0 rfl ?_
  refine rp_iconst (1 : Int32) dX11_rainbows_1 (by decide) ?_
  refine rp_callVi [.int (1 : Int32)] (SX11_crossings (hn := hn) a0 (1 : Int32) h0) cvX11_crossings (mw (i := 1113) (by decide +kernel)) (by omega) h0 (by decide) rfl rfl rfl (Nat.le_of_ble_eq_true rfl) dX11_rainbows_2 (fun x1 => ?_)
  exact rp_pu (rp_iret rfl dX11_rainbows_5)

theorem dX11_quarrels_0 : decode cX11_quarrels 0 = .ok (.aload_n 0, 1) := by decide +kernel
theorem dX11_quarrels_1 : decode cX11_quarrels 1 = .ok (.iconst 0, 1) := by decide +kernel
theorem dX11_quarrels_2 : decode cX11_quarrels 2 = .ok (.invokevirtual 301, 3) := by decide +kernel
theorem dX11_quarrels_5 : decode cX11_quarrels 5 = .ok (.ireturn, 1) := by decide +kernel
noncomputable def FX11_quarrels (a0 : Nat) : PP Int32 := bd (FX11_crossings a0 (0 : Int32)) (fun x1 => pu x1)
set_option maxHeartbeats 4000000 in
set_option maxRecDepth 100000 in
theorem SX11_quarrels {l : Launch} {K : KK} {n : Nat} {hn : 270 ≤ n} (a0 : Nat) (h0 : ob a0 10) : CT l K n 3 mX11_quarrels [.ref (K.2.1 + a0)] enI (FX11_quarrels a0) := by
  refine CT.of2 (lv2 := [(0, .ref (K.2.1 + a0))]) (by decide) rfl hn (Nat.le_of_ble_eq_true rfl) rfl (rp_id ?_)
  unfold FX11_quarrels
  refine rp_aload_n 0 dX11_quarrels_0 rfl ?_
  refine rp_iconst (0 : Int32) dX11_quarrels_1 (by decide) ?_
  refine rp_callVi [.int (0 : Int32)] (SX11_crossings (hn := hn) a0 (0 : Int32) h0) cvX11_crossings (mw (i := 1113) (by decide +kernel)) (by omega) h0 (by decide) rfl rfl rfl (Nat.le_of_ble_eq_true rfl) dX11_quarrels_2 (fun x1 => ?_)
  exact rp_pu (rp_iret rfl dX11_quarrels_5)

theorem dX11_changedBy_0 : decode cX11_changedBy 0 = .ok (.aload_n 0, 1) := by decide +kernel
theorem dX11_changedBy_1 : decode cX11_changedBy 1 = .ok (.getfield 51, 3) := by decide +kernel
theorem dX11_changedBy_4 : decode cX11_changedBy 4 = .ok (.aload_n 0, 1) := by decide +kernel
theorem dX11_changedBy_5 : decode cX11_changedBy 5 = .ok (.getfield 47, 3) := by decide +kernel
theorem dX11_changedBy_8 : decode cX11_changedBy 8 = .ok (.invokevirtual 260, 3) := by decide +kernel
theorem dX11_changedBy_11 : decode cX11_changedBy 11 = .ok (.aload_n 0, 1) := by decide +kernel
theorem dX11_changedBy_12 : decode cX11_changedBy 12 = .ok (.getfield 51, 3) := by decide +kernel
theorem dX11_changedBy_15 : decode cX11_changedBy 15 = .ok (.iload_n 1, 1) := by decide +kernel
theorem dX11_changedBy_16 : decode cX11_changedBy 16 = .ok (.iload_n 2, 1) := by decide +kernel
theorem dX11_changedBy_17 : decode cX11_changedBy 17 = .ok (.iconst 1, 1) := by decide +kernel
theorem dX11_changedBy_18 : decode cX11_changedBy 18 = .ok (.invokevirtual 214, 3) := by decide +kernel
theorem dX11_changedBy_21 : decode cX11_changedBy 21 = .ok (.iconst 0, 1) := by decide +kernel
theorem dX11_changedBy_22 : decode cX11_changedBy 22 = .ok (.istore_n 3, 1) := by decide +kernel
theorem dX11_changedBy_23 : decode cX11_changedBy 23 = .ok (.iconst 0, 1) := by decide +kernel
theorem dX11_changedBy_24 : decode cX11_changedBy 24 = .ok (.istore 4, 2) := by decide +kernel
theorem dX11_changedBy_26 : decode cX11_changedBy 26 = .ok (.iload 4, 2) := by decide +kernel
theorem dX11_changedBy_28 : decode cX11_changedBy 28 = .ok (.aload_n 0, 1) := by decide +kernel
theorem dX11_changedBy_29 : decode cX11_changedBy 29 = .ok (.getfield 19, 3) := by decide +kernel
theorem dX11_changedBy_32 : decode cX11_changedBy 32 = .ok (.getfield 186, 3) := by decide +kernel
theorem dX11_changedBy_35 : decode cX11_changedBy 35 = .ok (.if_icmp .ge 35, 3) := by decide +kernel
theorem dX11_changedBy_38 : decode cX11_changedBy 38 = .ok (.aload_n 0, 1) := by decide +kernel
theorem dX11_changedBy_39 : decode cX11_changedBy 39 = .ok (.getfield 51, 3) := by decide +kernel
theorem dX11_changedBy_42 : decode cX11_changedBy 42 = .ok (.iload 4, 2) := by decide +kernel
theorem dX11_changedBy_44 : decode cX11_changedBy 44 = .ok (.iconst 0, 1) := by decide +kernel
theorem dX11_changedBy_45 : decode cX11_changedBy 45 = .ok (.invokevirtual 170, 3) := by decide +kernel
theorem dX11_changedBy_48 : decode cX11_changedBy 48 = .ok (.aload_n 0, 1) := by decide +kernel
theorem dX11_changedBy_49 : decode cX11_changedBy 49 = .ok (.getfield 47, 3) := by decide +kernel
theorem dX11_changedBy_52 : decode cX11_changedBy 52 = .ok (.iload 4, 2) := by decide +kernel
theorem dX11_changedBy_54 : decode cX11_changedBy 54 = .ok (.iconst 0, 1) := by decide +kernel
theorem dX11_changedBy_55 : decode cX11_changedBy 55 = .ok (.invokevirtual 170, 3) := by decide +kernel
theorem dX11_changedBy_58 : decode cX11_changedBy 58 = .ok (.if_icmp .eq 6, 3) := by decide +kernel
theorem dX11_changedBy_61 : decode cX11_changedBy 61 = .ok (.iinc 3 1, 3) := by decide +kernel
theorem dX11_changedBy_64 : decode cX11_changedBy 64 = .ok (.iinc 4 1, 3) := by decide +kernel
theorem dX11_changedBy_67 : decode cX11_changedBy 67 = .ok (.goto (-41), 3) := by decide +kernel
theorem dX11_changedBy_70 : decode cX11_changedBy 70 = .ok (.iload_n 3, 1) := by decide +kernel
theorem dX11_changedBy_71 : decode cX11_changedBy 71 = .ok (.ireturn, 1) := by decide +kernel
noncomputable def FX11_changedBy (a0 : Nat) (p1 : Int32) (p2 : Int32) : PP Int32 := bd (FX4_copyFrom (rf a0 6) (rf a0 5)) (fun (_ : Unit) => bd (FX4_putUp (rf a0 6) p1 p2 (1 : Int32)) (fun (_ : Unit) => bd (it (fun (s3 : Int32 × Int32) => (bd (gI (rf a0 1) 10) (fun x4 => if x4 ≤ s3.2 then pu (Sum.inr s3.1) else bd (FX4_weather (rf a0 6) s3.2 (0 : Int32)) (fun x5 => bd (FX4_weather (rf a0 5) s3.2 (0 : Int32)) (fun x6 => bd (if x5 = x6 then pu s3.1 else lt (s3.1 + (1 : Int32)) (fun y7 => pu y7) : PP (Int32)) (fun (v8 : Int32) => lt (s3.2 + (1 : Int32)) (fun y9 => pu (Sum.inl (v8, y9))))))) : PP ((Int32 × Int32) ⊕ (Int32)))) FU ((0 : Int32), (0 : Int32))) (fun (v10 : Int32) => pu v10)))
set_option maxHeartbeats 4000000 in
set_option maxRecDepth 100000 in
theorem SX11_changedBy {l : Launch} {K : KK} {n : Nat} {hn : 270 ≤ n} (a0 : Nat) (p1 : Int32) (p2 : Int32) (h0 : ob a0 10) : CT l K n 2 mX11_changedBy [.ref (K.2.1 + a0), .int p1, .int p2] enI (FX11_changedBy a0 p1 p2) := by
  refine CT.of2 (lv2 := [(0, .ref (K.2.1 + a0)), (1, .int p1), (2, .int p2)]) (by decide) rfl hn (Nat.le_of_ble_eq_true rfl) rfl (rp_id ?_)
  unfold FX11_changedBy
  refine rp_aload_n 0 dX11_changedBy_0 rfl ?_
  refine rp_getR fi_X11_51 h0 rfl dX11_changedBy_1 ?_
  refine rp_aload_n 0 dX11_changedBy_4 rfl ?_
  refine rp_getR fi_X11_47 h0 rfl dX11_changedBy_5 ?_
  refine rp_callVv [.ref (K.2.1 + (rf a0 5))] (SX4_copyFrom (hn := hn) (rf a0 6) (rf a0 5) (tX11_6 h0) (tX11_5 h0)) cvX4_copyFrom (mw (i := 988) (by decide +kernel)) (by omega) (tX11_6 h0) (by decide) rfl rfl rfl (Nat.le_of_ble_eq_true rfl) dX11_changedBy_8 (fun x1 => ?_)
  refine rp_aload_n 0 dX11_changedBy_11 rfl ?_
  refine rp_getR fi_X11_51 h0 rfl dX11_changedBy_12 ?_
  refine rp_iload_n 1 dX11_changedBy_15 rfl ?_
  refine rp_iload_n 2 dX11_changedBy_16 rfl ?_
  refine rp_iconst (1 : Int32) dX11_changedBy_17 (by decide) ?_
  refine rp_callVv [.int p1, .int p2, .int (1 : Int32)] (SX4_putUp (hn := hn) (rf a0 6) p1 p2 (1 : Int32) (tX11_6 h0)) cvX4_putUp (mw (i := 872) (by decide +kernel)) (by omega) (tX11_6 h0) (by decide) rfl rfl rfl (Nat.le_of_ble_eq_true rfl) dX11_changedBy_18 (fun x2 => ?_)
  refine rp_iconst (0 : Int32) dX11_changedBy_21 (by decide) ?_
  refine rp_istore_n [(3, .int (0 : Int32)), (0, .ref (K.2.1 + a0)), (1, .int p1), (2, .int p2)] dX11_changedBy_22 (by decide) rfl ?_
  refine rp_iconst (0 : Int32) dX11_changedBy_23 (by decide) ?_
  refine rp_istore [(4, .int (0 : Int32)), (3, .int (0 : Int32)), (0, .ref (K.2.1 + a0)), (1, .int p1), (2, .int p2)] dX11_changedBy_24 (by decide) rfl ?_
  refine rp_as ?_
  refine rp_join 70 (fun v10 => [(3, .int v10)]) (fun _ => []) (fun v10 => ?_) (fun hX26_0 => ?_)
  · refine rp_iload_n 0 dX11_changedBy_70 rfl ?_
    exact rp_pu (rp_iret rfl dX11_changedBy_71)
  refine rp_sub [2, 1, 0] rfl (rp_it (fun (s3 : Int32 × Int32) => [(0, .ref (K.2.1 + a0)), (3, .int s3.1), (4, .int s3.2)]) (fun N26 ih26 s3 => ?_) FU ((0 : Int32), (0 : Int32)))
  refine rp_iload 2 dX11_changedBy_26 rfl ?_
  refine rp_aload_n 0 dX11_changedBy_28 rfl ?_
  refine rp_getR fi_X11_19 h0 rfl dX11_changedBy_29 ?_
  refine rp_getI fi_X11_186 (tX11_1 h0) rfl dX11_changedBy_32 (fun x4 => ?_)
  refine rp_icmp_ge 70 dX11_changedBy_35 (by decide) ?_ ?_
  · exact rp_sub [1] rfl (rp_puR (hX26_0 s3.1))
  · refine rp_aload_n 0 dX11_changedBy_38 rfl ?_
    refine rp_getR fi_X11_51 h0 rfl dX11_changedBy_39 ?_
    refine rp_iload 2 dX11_changedBy_42 rfl ?_
    refine rp_iconst (0 : Int32) dX11_changedBy_44 (by decide) ?_
    refine rp_callVi [.int s3.2, .int (0 : Int32)] (SX4_weather (hn := hn) (rf a0 6) s3.2 (0 : Int32) (tX11_6 h0)) cvX4_weather (mw (i := 808) (by decide +kernel)) (by omega) (tX11_6 h0) (by decide) rfl rfl rfl (Nat.le_of_ble_eq_true rfl) dX11_changedBy_45 (fun x5 => ?_)
    refine rp_aload_n 0 dX11_changedBy_48 rfl ?_
    refine rp_getR fi_X11_47 h0 rfl dX11_changedBy_49 ?_
    refine rp_iload 2 dX11_changedBy_52 rfl ?_
    refine rp_iconst (0 : Int32) dX11_changedBy_54 (by decide) ?_
    refine rp_callVi [.int s3.2, .int (0 : Int32)] (SX4_weather (hn := hn) (rf a0 5) s3.2 (0 : Int32) (tX11_5 h0)) cvX4_weather (mw (i := 808) (by decide +kernel)) (by omega) (tX11_5 h0) (by decide) rfl rfl rfl (Nat.le_of_ble_eq_true rfl) dX11_changedBy_55 (fun x6 => ?_)
    refine rp_as ?_
    refine rp_join 64 (fun (v8 : Int32) => [(0, .ref (K.2.1 + a0)), (3, .int v8), (4, .int s3.2)]) (fun v8 => []) (fun v8 => ?_) (fun hJ64 => ?_)
    · refine rp_iinc (fun y9 => [(4, .int y9), (0, .ref (K.2.1 + a0)), (3, .int v8)]) 2 dX11_changedBy_64 rfl (by rfl) (by decide) (fun y9 => rfl) (fun y9 => ?_)
      refine rp_goto 26 dX11_changedBy_67 (by decide) ?_
      exact rp_sub [1, 2, 0] rfl (ih26 (v8, y9))
    refine rp_icmp_eq 64 dX11_changedBy_58 (by decide) ?_ ?_
    · exact rp_sub [0, 1, 2] rfl (rp_pu (hJ64 s3.1))
    · refine rp_iinc (fun y7 => [(3, .int y7), (0, .ref (K.2.1 + a0)), (4, .int s3.2)]) 1 dX11_changedBy_61 rfl (by rfl) (by decide) (fun y7 => rfl) (fun y7 => ?_)
      exact rp_sub [1, 0, 2] rfl (rp_pu (hJ64 y7))

theorem dX11_best_0 : decode cX11_best 0 = .ok (.aload_n 0, 1) := by decide +kernel
theorem dX11_best_1 : decode cX11_best 1 = .ok (.getfield 47, 3) := by decide +kernel
theorem dX11_best_4 : decode cX11_best 4 = .ok (.iload_n 1, 1) := by decide +kernel
theorem dX11_best_5 : decode cX11_best 5 = .ok (.invokevirtual 225, 3) := by decide +kernel
theorem dX11_best_8 : decode cX11_best 8 = .ok (.ifCond .ne 5, 3) := by decide +kernel
theorem dX11_best_11 : decode cX11_best 11 = .ok (.iconst (-1), 1) := by decide +kernel
theorem dX11_best_12 : decode cX11_best 12 = .ok (.ireturn, 1) := by decide +kernel
theorem dX11_best_13 : decode cX11_best 13 = .ok (.iconst (-1), 1) := by decide +kernel
theorem dX11_best_14 : decode cX11_best 14 = .ok (.istore_n 2, 1) := by decide +kernel
theorem dX11_best_15 : decode cX11_best 15 = .ok (.iconst 0, 1) := by decide +kernel
theorem dX11_best_16 : decode cX11_best 16 = .ok (.istore_n 3, 1) := by decide +kernel
theorem dX11_best_17 : decode cX11_best 17 = .ok (.iconst 0, 1) := by decide +kernel
theorem dX11_best_18 : decode cX11_best 18 = .ok (.istore 4, 2) := by decide +kernel
theorem dX11_best_20 : decode cX11_best 20 = .ok (.iload 4, 2) := by decide +kernel
theorem dX11_best_22 : decode cX11_best 22 = .ok (.aload_n 0, 1) := by decide +kernel
theorem dX11_best_23 : decode cX11_best 23 = .ok (.getfield 19, 3) := by decide +kernel
theorem dX11_best_26 : decode cX11_best 26 = .ok (.getfield 183, 3) := by decide +kernel
theorem dX11_best_29 : decode cX11_best 29 = .ok (.if_icmp .ge 46, 3) := by decide +kernel
theorem dX11_best_32 : decode cX11_best 32 = .ok (.aload_n 0, 1) := by decide +kernel
theorem dX11_best_33 : decode cX11_best 33 = .ok (.getfield 47, 3) := by decide +kernel
theorem dX11_best_36 : decode cX11_best 36 = .ok (.iload 4, 2) := by decide +kernel
theorem dX11_best_38 : decode cX11_best 38 = .ok (.invokevirtual 139, 3) := by decide +kernel
theorem dX11_best_41 : decode cX11_best 41 = .ok (.ifCond .le 13, 3) := by decide +kernel
theorem dX11_best_44 : decode cX11_best 44 = .ok (.aload_n 0, 1) := by decide +kernel
theorem dX11_best_45 : decode cX11_best 45 = .ok (.iload_n 1, 1) := by decide +kernel
theorem dX11_best_46 : decode cX11_best 46 = .ok (.iload 4, 2) := by decide +kernel
theorem dX11_best_48 : decode cX11_best 48 = .ok (.invokevirtual 311, 3) := by decide +kernel
theorem dX11_best_51 : decode cX11_best 51 = .ok (.goto 4, 3) := by decide +kernel
theorem dX11_best_54 : decode cX11_best 54 = .ok (.iconst 0, 1) := by decide +kernel
theorem dX11_best_55 : decode cX11_best 55 = .ok (.istore 5, 2) := by decide +kernel
theorem dX11_best_57 : decode cX11_best 57 = .ok (.iload 5, 2) := by decide +kernel
theorem dX11_best_59 : decode cX11_best 59 = .ok (.iload_n 3, 1) := by decide +kernel
theorem dX11_best_60 : decode cX11_best 60 = .ok (.if_icmp .le 9, 3) := by decide +kernel
theorem dX11_best_63 : decode cX11_best 63 = .ok (.iload 5, 2) := by decide +kernel
theorem dX11_best_65 : decode cX11_best 65 = .ok (.istore_n 3, 1) := by decide +kernel
theorem dX11_best_66 : decode cX11_best 66 = .ok (.iload 4, 2) := by decide +kernel
theorem dX11_best_68 : decode cX11_best 68 = .ok (.istore_n 2, 1) := by decide +kernel
theorem dX11_best_69 : decode cX11_best 69 = .ok (.iinc 4 1, 3) := by decide +kernel
theorem dX11_best_72 : decode cX11_best 72 = .ok (.goto (-52), 3) := by decide +kernel
theorem dX11_best_75 : decode cX11_best 75 = .ok (.iload_n 2, 1) := by decide +kernel
theorem dX11_best_76 : decode cX11_best 76 = .ok (.ireturn, 1) := by decide +kernel
noncomputable def FX11_best (a0 : Nat) (p1 : Int32) : PP Int32 := bd (FX4_lies (rf a0 5) p1) (fun x1 => if ((b2i x1)) = 0 then pu (-1 : Int32) else bd (it (fun (s2 : Int32 × Int32 × Int32) => (bd (gI (rf a0 1) 9) (fun x3 => if x3 ≤ s2.2.2 then pu (Sum.inr s2.1) else bd (FX4_freeOn (rf a0 5) s2.2.2) (fun x4 => bd (if x4 ≤ 0 then pu (0 : Int32) else bd (FX11_changedBy a0 p1 s2.2.2) (fun x5 => pu x5) : PP (Int32)) (fun (v6 : Int32) => bd (if v6 ≤ s2.2.1 then pu (s2.1, s2.2.1) else pu (s2.2.2, v6) : PP (Int32 × Int32)) (fun (v7 : Int32 × Int32) => lt (s2.2.2 + (1 : Int32)) (fun y8 => pu (Sum.inl (v7.1, v7.2, y8))))))) : PP ((Int32 × Int32 × Int32) ⊕ (Int32)))) FU ((-1 : Int32), (0 : Int32), (0 : Int32))) (fun (v9 : Int32) => pu v9))
set_option maxHeartbeats 4000000 in
set_option maxRecDepth 100000 in
theorem SX11_best {l : Launch} {K : KK} {n : Nat} {hn : 270 ≤ n} (a0 : Nat) (p1 : Int32) (h0 : ob a0 10) : CT l K n 3 mX11_best [.ref (K.2.1 + a0), .int p1] enI (FX11_best a0 p1) := by
  refine CT.of2 (lv2 := [(0, .ref (K.2.1 + a0)), (1, .int p1)]) (by decide) rfl hn (Nat.le_of_ble_eq_true rfl) rfl (rp_id ?_)
  unfold FX11_best
  refine rp_aload_n 0 dX11_best_0 rfl ?_
  refine rp_getR fi_X11_47 h0 rfl dX11_best_1 ?_
  refine rp_iload_n 1 dX11_best_4 rfl ?_
  refine rp_callVz [.int p1] (SX4_lies (hn := hn) (rf a0 5) p1 (tX11_5 h0)) cvX4_lies (mw (i := 892) (by decide +kernel)) (by omega) (tX11_5 h0) (by decide) rfl rfl rfl (Nat.le_of_ble_eq_true rfl) dX11_best_5 (fun x1 => ?_)
  refine rp_if_ne 13 dX11_best_8 (by decide) ?_ ?_
  · refine rp_iconst (-1 : Int32) dX11_best_13 (by decide) ?_
    refine rp_istore_n [(2, .int (-1 : Int32)), (0, .ref (K.2.1 + a0)), (1, .int p1)] dX11_best_14 (by decide) rfl ?_
    refine rp_iconst (0 : Int32) dX11_best_15 (by decide) ?_
    refine rp_istore_n [(3, .int (0 : Int32)), (2, .int (-1 : Int32)), (0, .ref (K.2.1 + a0)), (1, .int p1)] dX11_best_16 (by decide) rfl ?_
    refine rp_iconst (0 : Int32) dX11_best_17 (by decide) ?_
    refine rp_istore [(4, .int (0 : Int32)), (3, .int (0 : Int32)), (2, .int (-1 : Int32)), (0, .ref (K.2.1 + a0)), (1, .int p1)] dX11_best_18 (by decide) rfl ?_
    refine rp_as ?_
    refine rp_join 75 (fun v9 => [(2, .int v9)]) (fun _ => []) (fun v9 => ?_) (fun hX20_0 => ?_)
    · refine rp_iload_n 0 dX11_best_75 rfl ?_
      exact rp_pu (rp_iret rfl dX11_best_76)
    refine rp_sub [3, 4, 2, 1, 0] rfl (rp_it (fun (s2 : Int32 × Int32 × Int32) => [(0, .ref (K.2.1 + a0)), (1, .int p1), (2, .int s2.1), (3, .int s2.2.1), (4, .int s2.2.2)]) (fun N20 ih20 s2 => ?_) FU ((-1 : Int32), (0 : Int32), (0 : Int32)))
    refine rp_iload 4 dX11_best_20 rfl ?_
    refine rp_aload_n 0 dX11_best_22 rfl ?_
    refine rp_getR fi_X11_19 h0 rfl dX11_best_23 ?_
    refine rp_getI fi_X11_183 (tX11_1 h0) rfl dX11_best_26 (fun x3 => ?_)
    refine rp_icmp_ge 75 dX11_best_29 (by decide) ?_ ?_
    · exact rp_sub [2] rfl (rp_puR (hX20_0 s2.1))
    · refine rp_aload_n 0 dX11_best_32 rfl ?_
      refine rp_getR fi_X11_47 h0 rfl dX11_best_33 ?_
      refine rp_iload 4 dX11_best_36 rfl ?_
      refine rp_callVi [.int s2.2.2] (SX4_freeOn (hn := hn) (rf a0 5) s2.2.2 (tX11_5 h0)) cvX4_freeOn (mw (i := 784) (by decide +kernel)) (by omega) (tX11_5 h0) (by decide) rfl rfl rfl (Nat.le_of_ble_eq_true rfl) dX11_best_38 (fun x4 => ?_)
      refine rp_as ?_
      refine rp_join 55 (fun (v6 : Int32) => [(0, .ref (K.2.1 + a0)), (1, .int p1), (2, .int s2.1), (3, .int s2.2.1), (4, .int s2.2.2)]) (fun v6 => [.int v6]) (fun v6 => ?_) (fun hJ55 => ?_)
      · refine rp_istore [(5, .int v6), (0, .ref (K.2.1 + a0)), (1, .int p1), (2, .int s2.1), (3, .int s2.2.1), (4, .int s2.2.2)] dX11_best_55 (by decide) rfl ?_
        refine rp_iload 0 dX11_best_57 rfl ?_
        refine rp_iload_n 4 dX11_best_59 rfl ?_
        refine rp_as ?_
        refine rp_join 69 (fun (v7 : Int32 × Int32) => [(0, .ref (K.2.1 + a0)), (1, .int p1), (2, .int v7.1), (3, .int v7.2), (4, .int s2.2.2)]) (fun v7 => []) (fun v7 => ?_) (fun hJ69 => ?_)
        · refine rp_iinc (fun y8 => [(4, .int y8), (0, .ref (K.2.1 + a0)), (1, .int p1), (2, .int v7.1), (3, .int v7.2)]) 4 dX11_best_69 rfl (by rfl) (by decide) (fun y8 => rfl) (fun y8 => ?_)
          refine rp_goto 20 dX11_best_72 (by decide) ?_
          exact rp_sub [1, 2, 3, 4, 0] rfl (ih20 (v7.1, v7.2, y8))
        refine rp_icmp_le 69 dX11_best_60 (by decide) ?_ ?_
        · exact rp_sub [1, 2, 3, 4, 5] rfl (rp_pu (hJ69 (s2.1, s2.2.1)))
        · refine rp_iload 0 dX11_best_63 rfl ?_
          refine rp_istore_n [(3, .int v6), (5, .int v6), (0, .ref (K.2.1 + a0)), (1, .int p1), (2, .int s2.1), (4, .int s2.2.2)] dX11_best_65 (by decide) rfl ?_
          refine rp_iload 5 dX11_best_66 rfl ?_
          refine rp_istore_n [(2, .int s2.2.2), (3, .int v6), (5, .int v6), (0, .ref (K.2.1 + a0)), (1, .int p1), (4, .int s2.2.2)] dX11_best_68 (by decide) rfl ?_
          exact rp_sub [3, 4, 0, 1, 5] rfl (rp_pu (hJ69 (s2.2.2, v6)))
      refine rp_if_le 54 dX11_best_41 (by decide) ?_ ?_
      · refine rp_iconst (0 : Int32) dX11_best_54 (by decide) ?_
        exact rp_sub [0, 1, 2, 3, 4] rfl (rp_pu (hJ55 (0 : Int32)))
      · refine rp_aload_n 0 dX11_best_44 rfl ?_
        refine rp_iload_n 1 dX11_best_45 rfl ?_
        refine rp_iload 4 dX11_best_46 rfl ?_
        refine rp_callVi [.int p1, .int s2.2.2] (SX11_changedBy (hn := hn) a0 p1 s2.2.2 h0) cvX11_changedBy (mw (i := 1137) (by decide +kernel)) (by omega) h0 (by decide) rfl rfl rfl (Nat.le_of_ble_eq_true rfl) dX11_best_48 (fun x5 => ?_)
        refine rp_goto 55 dX11_best_51 (by decide) ?_
        exact rp_sub [0, 1, 2, 3, 4] rfl (rp_pu (hJ55 x5))
  · refine rp_iconst (-1 : Int32) dX11_best_11 (by decide) ?_
    exact rp_pu (rp_iret rfl dX11_best_12)

theorem dX11_owes_0 : decode cX11_owes 0 = .ok (.aload_n 0, 1) := by decide +kernel
theorem dX11_owes_1 : decode cX11_owes 1 = .ok (.getfield 19, 3) := by decide +kernel
theorem dX11_owes_4 : decode cX11_owes 4 = .ok (.iload_n 1, 1) := by decide +kernel
theorem dX11_owes_5 : decode cX11_owes 5 = .ok (.invokevirtual 167, 3) := by decide +kernel
theorem dX11_owes_8 : decode cX11_owes 8 = .ok (.ifCond .ne 5, 3) := by decide +kernel
theorem dX11_owes_11 : decode cX11_owes 11 = .ok (.iconst (-1), 1) := by decide +kernel
theorem dX11_owes_12 : decode cX11_owes 12 = .ok (.ireturn, 1) := by decide +kernel
theorem dX11_owes_13 : decode cX11_owes 13 = .ok (.aload_n 0, 1) := by decide +kernel
theorem dX11_owes_14 : decode cX11_owes 14 = .ok (.getfield 47, 3) := by decide +kernel
theorem dX11_owes_17 : decode cX11_owes 17 = .ok (.iload_n 1, 1) := by decide +kernel
theorem dX11_owes_18 : decode cX11_owes 18 = .ok (.iconst 0, 1) := by decide +kernel
theorem dX11_owes_19 : decode cX11_owes 19 = .ok (.invokevirtual 170, 3) := by decide +kernel
theorem dX11_owes_22 : decode cX11_owes 22 = .ok (.istore_n 2, 1) := by decide +kernel
theorem dX11_owes_23 : decode cX11_owes 23 = .ok (.iconst 0, 1) := by decide +kernel
theorem dX11_owes_24 : decode cX11_owes 24 = .ok (.istore_n 3, 1) := by decide +kernel
theorem dX11_owes_25 : decode cX11_owes 25 = .ok (.iload_n 3, 1) := by decide +kernel
theorem dX11_owes_26 : decode cX11_owes 26 = .ok (.aload_n 0, 1) := by decide +kernel
theorem dX11_owes_27 : decode cX11_owes 27 = .ok (.getfield 19, 3) := by decide +kernel
theorem dX11_owes_30 : decode cX11_owes 30 = .ok (.getfield 189, 3) := by decide +kernel
theorem dX11_owes_33 : decode cX11_owes 33 = .ok (.if_icmp .ge 37, 3) := by decide +kernel
theorem dX11_owes_36 : decode cX11_owes 36 = .ok (.aload_n 0, 1) := by decide +kernel
theorem dX11_owes_37 : decode cX11_owes 37 = .ok (.getfield 47, 3) := by decide +kernel
theorem dX11_owes_40 : decode cX11_owes 40 = .ok (.iload_n 3, 1) := by decide +kernel
theorem dX11_owes_41 : decode cX11_owes 41 = .ok (.invokevirtual 218, 3) := by decide +kernel
theorem dX11_owes_44 : decode cX11_owes 44 = .ok (.ifCond .eq 20, 3) := by decide +kernel
theorem dX11_owes_47 : decode cX11_owes 47 = .ok (.aload_n 0, 1) := by decide +kernel
theorem dX11_owes_48 : decode cX11_owes 48 = .ok (.getfield 47, 3) := by decide +kernel
theorem dX11_owes_51 : decode cX11_owes 51 = .ok (.iload_n 1, 1) := by decide +kernel
theorem dX11_owes_52 : decode cX11_owes 52 = .ok (.iconst 1, 1) := by decide +kernel
theorem dX11_owes_53 : decode cX11_owes 53 = .ok (.iload_n 3, 1) := by decide +kernel
theorem dX11_owes_54 : decode cX11_owes 54 = .ok (.ishl, 1) := by decide +kernel
theorem dX11_owes_55 : decode cX11_owes 55 = .ok (.invokevirtual 170, 3) := by decide +kernel
theorem dX11_owes_58 : decode cX11_owes 58 = .ok (.iload_n 2, 1) := by decide +kernel
theorem dX11_owes_59 : decode cX11_owes 59 = .ok (.if_icmp .eq 5, 3) := by decide +kernel
theorem dX11_owes_62 : decode cX11_owes 62 = .ok (.iload_n 3, 1) := by decide +kernel
theorem dX11_owes_63 : decode cX11_owes 63 = .ok (.ireturn, 1) := by decide +kernel
theorem dX11_owes_64 : decode cX11_owes 64 = .ok (.iinc 3 1, 3) := by decide +kernel
theorem dX11_owes_67 : decode cX11_owes 67 = .ok (.goto (-42), 3) := by decide +kernel
theorem dX11_owes_70 : decode cX11_owes 70 = .ok (.iconst (-1), 1) := by decide +kernel
theorem dX11_owes_71 : decode cX11_owes 71 = .ok (.ireturn, 1) := by decide +kernel
noncomputable def FX11_owes (a0 : Nat) (p1 : Int32) : PP Int32 := bd (FX7_hasPlace (rf a0 1) p1) (fun x1 => if ((b2i x1)) = 0 then pu (-1 : Int32) else bd (FX4_weather (rf a0 5) p1 (0 : Int32)) (fun x2 => bd (it (fun (s3 : Int32) => (bd (gI (rf a0 1) 11) (fun x4 => if x4 ≤ s3 then pu (Sum.inr (Sum.inl ())) else bd (FX4_hangs (rf a0 5) s3) (fun x5 => if ((b2i x5)) = 0 then lt (s3 + (1 : Int32)) (fun y6 => pu (Sum.inl y6)) else bd (FX4_weather (rf a0 5) p1 ((1 : Int32) <<< (s3 &&& 31))) (fun x7 => if x7 = x2 then lt (s3 + (1 : Int32)) (fun y8 => pu (Sum.inl y8)) else pu (Sum.inr (Sum.inr (s3)))))) : PP ((Int32) ⊕ ((Unit) ⊕ (Int32))))) FU (0 : Int32)) (Sum.elim (fun (v9 : Unit) => pu (-1 : Int32)) (fun (v10 : Int32) => pu v10))))
set_option maxHeartbeats 4000000 in
set_option maxRecDepth 100000 in
theorem SX11_owes {l : Launch} {K : KK} {n : Nat} {hn : 270 ≤ n} (a0 : Nat) (p1 : Int32) (h0 : ob a0 10) : CT l K n 2 mX11_owes [.ref (K.2.1 + a0), .int p1] enI (FX11_owes a0 p1) := by
  refine CT.of2 (lv2 := [(0, .ref (K.2.1 + a0)), (1, .int p1)]) (by decide) rfl hn (Nat.le_of_ble_eq_true rfl) rfl (rp_id ?_)
  unfold FX11_owes
  refine rp_aload_n 0 dX11_owes_0 rfl ?_
  refine rp_getR fi_X11_19 h0 rfl dX11_owes_1 ?_
  refine rp_iload_n 1 dX11_owes_4 rfl ?_
  refine rp_callVz [.int p1] (SX7_hasPlace (hn := hn) (rf a0 1) p1 (tX11_1 h0)) cvX7_hasPlace (mw (i := 804) (by decide +kernel)) (by omega) (tX11_1 h0) (by decide) rfl rfl rfl (Nat.le_of_ble_eq_true rfl) dX11_owes_5 (fun x1 => ?_)
  refine rp_if_ne 13 dX11_owes_8 (by decide) ?_ ?_
  · refine rp_aload_n 0 dX11_owes_13 rfl ?_
    refine rp_getR fi_X11_47 h0 rfl dX11_owes_14 ?_
    refine rp_iload_n 1 dX11_owes_17 rfl ?_
    refine rp_iconst (0 : Int32) dX11_owes_18 (by decide) ?_
    refine rp_callVi [.int p1, .int (0 : Int32)] (SX4_weather (hn := hn) (rf a0 5) p1 (0 : Int32) (tX11_5 h0)) cvX4_weather (mw (i := 808) (by decide +kernel)) (by omega) (tX11_5 h0) (by decide) rfl rfl rfl (Nat.le_of_ble_eq_true rfl) dX11_owes_19 (fun x2 => ?_)
    refine rp_istore_n [(2, .int x2), (0, .ref (K.2.1 + a0)), (1, .int p1)] dX11_owes_22 (by decide) rfl ?_
    refine rp_iconst (0 : Int32) dX11_owes_23 (by decide) ?_
    refine rp_istore_n [(3, .int (0 : Int32)), (2, .int x2), (0, .ref (K.2.1 + a0)), (1, .int p1)] dX11_owes_24 (by decide) rfl ?_
    refine rp_as ?_
    refine rp_join2 70 (fun v9 => []) (fun _ => []) 62 (fun v10 => [(3, .int v10)]) (fun _ => []) (fun v9 => ?_) (fun v10 => ?_) (fun hX25_0 hX25_1 => ?_)
    · refine rp_iconst (-1 : Int32) dX11_owes_70 (by decide) ?_
      exact rp_pu (rp_iret rfl dX11_owes_71)
    · refine rp_iload_n 0 dX11_owes_62 rfl ?_
      exact rp_pu (rp_iret rfl dX11_owes_63)
    refine rp_sub [2, 3, 1, 0] rfl (rp_it (fun (s3 : Int32) => [(0, .ref (K.2.1 + a0)), (1, .int p1), (2, .int x2), (3, .int s3)]) (fun N25 ih25 s3 => ?_) FU (0 : Int32))
    refine rp_iload_n 3 dX11_owes_25 rfl ?_
    refine rp_aload_n 0 dX11_owes_26 rfl ?_
    refine rp_getR fi_X11_19 h0 rfl dX11_owes_27 ?_
    refine rp_getI fi_X11_189 (tX11_1 h0) rfl dX11_owes_30 (fun x4 => ?_)
    refine rp_icmp_ge 70 dX11_owes_33 (by decide) ?_ ?_
    · exact rp_sub [] rfl (rp_puRL (hX25_0 ()))
    · refine rp_aload_n 0 dX11_owes_36 rfl ?_
      refine rp_getR fi_X11_47 h0 rfl dX11_owes_37 ?_
      refine rp_iload_n 3 dX11_owes_40 rfl ?_
      refine rp_callVz [.int s3] (SX4_hangs (hn := hn) (rf a0 5) s3 (tX11_5 h0)) cvX4_hangs (mw (i := 880) (by decide +kernel)) (by omega) (tX11_5 h0) (by decide) rfl rfl rfl (Nat.le_of_ble_eq_true rfl) dX11_owes_41 (fun x5 => ?_)
      refine rp_if_eq 64 dX11_owes_44 (by decide) ?_ ?_
      · refine rp_iinc (fun y6 => [(3, .int y6), (0, .ref (K.2.1 + a0)), (1, .int p1), (2, .int x2)]) 3 dX11_owes_64 rfl (by rfl) (by decide) (fun y6 => rfl) (fun y6 => ?_)
        refine rp_goto 25 dX11_owes_67 (by decide) ?_
        exact rp_sub [1, 2, 3, 0] rfl (ih25 y6)
      · refine rp_aload_n 0 dX11_owes_47 rfl ?_
        refine rp_getR fi_X11_47 h0 rfl dX11_owes_48 ?_
        refine rp_iload_n 1 dX11_owes_51 rfl ?_
        refine rp_iconst (1 : Int32) dX11_owes_52 (by decide) ?_
        refine rp_iload_n 3 dX11_owes_53 rfl ?_
        refine rp_ishl dX11_owes_54 ?_
        refine rp_callVi [.int p1, .int ((1 : Int32) <<< (s3 &&& 31))] (SX4_weather (hn := hn) (rf a0 5) p1 ((1 : Int32) <<< (s3 &&& 31)) (tX11_5 h0)) cvX4_weather (mw (i := 808) (by decide +kernel)) (by omega) (tX11_5 h0) (by decide) rfl rfl rfl (Nat.le_of_ble_eq_true rfl) dX11_owes_55 (fun x7 => ?_)
        refine rp_iload_n 2 dX11_owes_58 rfl ?_
        refine rp_icmp_eq 64 dX11_owes_59 (by decide) ?_ ?_
        · refine rp_iinc (fun y8 => [(3, .int y8), (0, .ref (K.2.1 + a0)), (1, .int p1), (2, .int x2)]) 3 dX11_owes_64 rfl (by rfl) (by decide) (fun y8 => rfl) (fun y8 => ?_)
          refine rp_goto 25 dX11_owes_67 (by decide) ?_
          exact rp_sub [1, 2, 3, 0] rfl (ih25 y8)
        · exact rp_sub [3] rfl (rp_puRR (hX25_1 s3))
  · refine rp_iconst (-1 : Int32) dX11_owes_11 (by decide) ?_
    exact rp_pu (rp_iret rfl dX11_owes_12)

theorem dX11_same_0 : decode cX11_same 0 = .ok (.iconst 0, 1) := by decide +kernel
theorem dX11_same_1 : decode cX11_same 1 = .ok (.istore_n 1, 1) := by decide +kernel
theorem dX11_same_2 : decode cX11_same 2 = .ok (.iconst 0, 1) := by decide +kernel
theorem dX11_same_3 : decode cX11_same 3 = .ok (.istore_n 2, 1) := by decide +kernel
theorem dX11_same_4 : decode cX11_same 4 = .ok (.iload_n 2, 1) := by decide +kernel
theorem dX11_same_5 : decode cX11_same 5 = .ok (.aload_n 0, 1) := by decide +kernel
theorem dX11_same_6 : decode cX11_same 6 = .ok (.getfield 19, 3) := by decide +kernel
theorem dX11_same_9 : decode cX11_same 9 = .ok (.getfield 186, 3) := by decide +kernel
theorem dX11_same_12 : decode cX11_same 12 = .ok (.if_icmp .ge 54, 3) := by decide +kernel
theorem dX11_same_15 : decode cX11_same 15 = .ok (.iload_n 2, 1) := by decide +kernel
theorem dX11_same_16 : decode cX11_same 16 = .ok (.iconst 1, 1) := by decide +kernel
theorem dX11_same_17 : decode cX11_same 17 = .ok (.iadd, 1) := by decide +kernel
theorem dX11_same_18 : decode cX11_same 18 = .ok (.istore_n 3, 1) := by decide +kernel
theorem dX11_same_19 : decode cX11_same 19 = .ok (.iload_n 3, 1) := by decide +kernel
theorem dX11_same_20 : decode cX11_same 20 = .ok (.aload_n 0, 1) := by decide +kernel
theorem dX11_same_21 : decode cX11_same 21 = .ok (.getfield 19, 3) := by decide +kernel
theorem dX11_same_24 : decode cX11_same 24 = .ok (.getfield 186, 3) := by decide +kernel
theorem dX11_same_27 : decode cX11_same 27 = .ok (.if_icmp .ge 33, 3) := by decide +kernel
theorem dX11_same_30 : decode cX11_same 30 = .ok (.aload_n 0, 1) := by decide +kernel
theorem dX11_same_31 : decode cX11_same 31 = .ok (.getfield 47, 3) := by decide +kernel
theorem dX11_same_34 : decode cX11_same 34 = .ok (.iload_n 2, 1) := by decide +kernel
theorem dX11_same_35 : decode cX11_same 35 = .ok (.iconst 0, 1) := by decide +kernel
theorem dX11_same_36 : decode cX11_same 36 = .ok (.invokevirtual 170, 3) := by decide +kernel
theorem dX11_same_39 : decode cX11_same 39 = .ok (.aload_n 0, 1) := by decide +kernel
theorem dX11_same_40 : decode cX11_same 40 = .ok (.getfield 47, 3) := by decide +kernel
theorem dX11_same_43 : decode cX11_same 43 = .ok (.iload_n 3, 1) := by decide +kernel
theorem dX11_same_44 : decode cX11_same 44 = .ok (.iconst 0, 1) := by decide +kernel
theorem dX11_same_45 : decode cX11_same 45 = .ok (.invokevirtual 170, 3) := by decide +kernel
theorem dX11_same_48 : decode cX11_same 48 = .ok (.if_icmp .ne 6, 3) := by decide +kernel
theorem dX11_same_51 : decode cX11_same 51 = .ok (.iinc 1 1, 3) := by decide +kernel
theorem dX11_same_54 : decode cX11_same 54 = .ok (.iinc 3 1, 3) := by decide +kernel
theorem dX11_same_57 : decode cX11_same 57 = .ok (.goto (-38), 3) := by decide +kernel
theorem dX11_same_60 : decode cX11_same 60 = .ok (.iinc 2 1, 3) := by decide +kernel
theorem dX11_same_63 : decode cX11_same 63 = .ok (.goto (-59), 3) := by decide +kernel
theorem dX11_same_66 : decode cX11_same 66 = .ok (.iload_n 1, 1) := by decide +kernel
theorem dX11_same_67 : decode cX11_same 67 = .ok (.ireturn, 1) := by decide +kernel
noncomputable def FX11_same (a0 : Nat) : PP Int32 := bd (it (fun (s1 : Int32 × Int32) => (bd (gI (rf a0 1) 10) (fun x2 => if x2 ≤ s1.2 then pu (Sum.inr s1.1) else lt (s1.2 + (1 : Int32)) (fun y3 => bd (it (fun (s4 : Int32 × Int32) => (bd (gI (rf a0 1) 10) (fun x5 => if x5 ≤ s4.2 then pu (Sum.inr s4.1) else bd (FX4_weather (rf a0 5) s1.2 (0 : Int32)) (fun x6 => bd (FX4_weather (rf a0 5) s4.2 (0 : Int32)) (fun x7 => bd (if x6 = x7 then lt (s4.1 + (1 : Int32)) (fun y8 => pu y8) else pu s4.1 : PP (Int32)) (fun (v9 : Int32) => lt (s4.2 + (1 : Int32)) (fun y10 => pu (Sum.inl (v9, y10))))))) : PP ((Int32 × Int32) ⊕ (Int32)))) FU (s1.1, y3)) (fun (v11 : Int32) => lt (s1.2 + (1 : Int32)) (fun y12 => pu (Sum.inl (v11, y12)))))) : PP ((Int32 × Int32) ⊕ (Int32)))) FU ((0 : Int32), (0 : Int32))) (fun (v13 : Int32) => pu v13)
set_option maxHeartbeats 4000000 in
set_option maxRecDepth 100000 in
theorem SX11_same {l : Launch} {K : KK} {n : Nat} {hn : 270 ≤ n} (a0 : Nat) (h0 : ob a0 10) : CT l K n 2 mX11_same [.ref (K.2.1 + a0)] enI (FX11_same a0) := by
  refine CT.of2 (lv2 := [(0, .ref (K.2.1 + a0))]) (by decide) rfl hn (Nat.le_of_ble_eq_true rfl) rfl (rp_id ?_)
  unfold FX11_same
  refine rp_iconst (0 : Int32) dX11_same_0 (by decide) ?_
  refine rp_istore_n [(1, .int (0 : Int32)), (0, .ref (K.2.1 + a0))] dX11_same_1 (by decide) rfl ?_
  refine rp_iconst (0 : Int32) dX11_same_2 (by decide) ?_
  refine rp_istore_n [(2, .int (0 : Int32)), (1, .int (0 : Int32)), (0, .ref (K.2.1 + a0))] dX11_same_3 (by decide) rfl ?_
  refine rp_as ?_
  refine rp_join 66 (fun v13 => [(1, .int v13)]) (fun _ => []) (fun v13 => ?_) (fun hX4_0 => ?_)
  · refine rp_iload_n 0 dX11_same_66 rfl ?_
    exact rp_pu (rp_iret rfl dX11_same_67)
  refine rp_sub [2, 1, 0] rfl (rp_it (fun (s1 : Int32 × Int32) => [(0, .ref (K.2.1 + a0)), (1, .int s1.1), (2, .int s1.2)]) (fun N4 ih4 s1 => ?_) FU ((0 : Int32), (0 : Int32)))
  refine rp_iload_n 2 dX11_same_4 rfl ?_
  refine rp_aload_n 0 dX11_same_5 rfl ?_
  refine rp_getR fi_X11_19 h0 rfl dX11_same_6 ?_
  refine rp_getI fi_X11_186 (tX11_1 h0) rfl dX11_same_9 (fun x2 => ?_)
  refine rp_icmp_ge 66 dX11_same_12 (by decide) ?_ ?_
  · exact rp_sub [1] rfl (rp_puR (hX4_0 s1.1))
  · refine rp_iload_n 2 dX11_same_15 rfl ?_
    refine rp_iconst (1 : Int32) dX11_same_16 (by decide) ?_
    refine rp_iadd dX11_same_17 ?_
    refine rp_lti (fun y3 => ?_)
    refine rp_istore_n [(3, .int y3), (0, .ref (K.2.1 + a0)), (1, .int s1.1), (2, .int s1.2)] dX11_same_18 (by decide) rfl ?_
    refine rp_as ?_
    refine rp_join 60 (fun v11 => [(0, .ref (K.2.1 + a0)), (1, .int v11), (2, .int s1.2)]) (fun _ => []) (fun v11 => ?_) (fun hX19_0 => ?_)
    · refine rp_iinc (fun y12 => [(2, .int y12), (0, .ref (K.2.1 + a0)), (1, .int v11)]) 2 dX11_same_60 rfl (by rfl) (by decide) (fun y12 => rfl) (fun y12 => ?_)
      refine rp_goto 4 dX11_same_63 (by decide) ?_
      exact rp_sub [1, 2, 0] rfl (ih4 (v11, y12))
    refine rp_sub [1, 2, 3, 0] rfl (rp_it (fun (s4 : Int32 × Int32) => [(0, .ref (K.2.1 + a0)), (1, .int s4.1), (2, .int s1.2), (3, .int s4.2)]) (fun N19 ih19 s4 => ?_) FU (s1.1, y3))
    refine rp_iload_n 3 dX11_same_19 rfl ?_
    refine rp_aload_n 0 dX11_same_20 rfl ?_
    refine rp_getR fi_X11_19 h0 rfl dX11_same_21 ?_
    refine rp_getI fi_X11_186 (tX11_1 h0) rfl dX11_same_24 (fun x5 => ?_)
    refine rp_icmp_ge 60 dX11_same_27 (by decide) ?_ ?_
    · exact rp_sub [0, 1, 2] rfl (rp_puR (hX19_0 s4.1))
    · refine rp_aload_n 0 dX11_same_30 rfl ?_
      refine rp_getR fi_X11_47 h0 rfl dX11_same_31 ?_
      refine rp_iload_n 2 dX11_same_34 rfl ?_
      refine rp_iconst (0 : Int32) dX11_same_35 (by decide) ?_
      refine rp_callVi [.int s1.2, .int (0 : Int32)] (SX4_weather (hn := hn) (rf a0 5) s1.2 (0 : Int32) (tX11_5 h0)) cvX4_weather (mw (i := 808) (by decide +kernel)) (by omega) (tX11_5 h0) (by decide) rfl rfl rfl (Nat.le_of_ble_eq_true rfl) dX11_same_36 (fun x6 => ?_)
      refine rp_aload_n 0 dX11_same_39 rfl ?_
      refine rp_getR fi_X11_47 h0 rfl dX11_same_40 ?_
      refine rp_iload_n 3 dX11_same_43 rfl ?_
      refine rp_iconst (0 : Int32) dX11_same_44 (by decide) ?_
      refine rp_callVi [.int s4.2, .int (0 : Int32)] (SX4_weather (hn := hn) (rf a0 5) s4.2 (0 : Int32) (tX11_5 h0)) cvX4_weather (mw (i := 808) (by decide +kernel)) (by omega) (tX11_5 h0) (by decide) rfl rfl rfl (Nat.le_of_ble_eq_true rfl) dX11_same_45 (fun x7 => ?_)
      refine rp_as ?_
      refine rp_join 54 (fun (v9 : Int32) => [(0, .ref (K.2.1 + a0)), (1, .int v9), (2, .int s1.2), (3, .int s4.2)]) (fun v9 => []) (fun v9 => ?_) (fun hJ54 => ?_)
      · refine rp_iinc (fun y10 => [(3, .int y10), (0, .ref (K.2.1 + a0)), (1, .int v9), (2, .int s1.2)]) 3 dX11_same_54 rfl (by rfl) (by decide) (fun y10 => rfl) (fun y10 => ?_)
        refine rp_goto 19 dX11_same_57 (by decide) ?_
        exact rp_sub [1, 2, 3, 0] rfl (ih19 (v9, y10))
      refine rp_icmp_ne 54 dX11_same_48 (by decide) ?_ ?_
      · exact rp_sub [0, 1, 2, 3] rfl (rp_pu (hJ54 s4.1))
      · refine rp_iinc (fun y8 => [(1, .int y8), (0, .ref (K.2.1 + a0)), (2, .int s1.2), (3, .int s4.2)]) 1 dX11_same_51 rfl (by rfl) (by decide) (fun y8 => rfl) (fun y8 => ?_)
        exact rp_sub [1, 0, 2, 3] rfl (rp_pu (hJ54 y8))

theorem dX11_storm_0 : decode cX11_storm 0 = .ok (.iconst (-1), 1) := by decide +kernel
theorem dX11_storm_1 : decode cX11_storm 1 = .ok (.istore_n 1, 1) := by decide +kernel
theorem dX11_storm_2 : decode cX11_storm 2 = .ok (.iconst (-1), 1) := by decide +kernel
theorem dX11_storm_3 : decode cX11_storm 3 = .ok (.istore_n 2, 1) := by decide +kernel
theorem dX11_storm_4 : decode cX11_storm 4 = .ok (.iconst 0, 1) := by decide +kernel
theorem dX11_storm_5 : decode cX11_storm 5 = .ok (.istore_n 3, 1) := by decide +kernel
theorem dX11_storm_6 : decode cX11_storm 6 = .ok (.iload_n 3, 1) := by decide +kernel
theorem dX11_storm_7 : decode cX11_storm 7 = .ok (.aload_n 0, 1) := by decide +kernel
theorem dX11_storm_8 : decode cX11_storm 8 = .ok (.getfield 19, 3) := by decide +kernel
theorem dX11_storm_11 : decode cX11_storm 11 = .ok (.getfield 186, 3) := by decide +kernel
theorem dX11_storm_14 : decode cX11_storm 14 = .ok (.if_icmp .ge 30, 3) := by decide +kernel
theorem dX11_storm_17 : decode cX11_storm 17 = .ok (.aload_n 0, 1) := by decide +kernel
theorem dX11_storm_18 : decode cX11_storm 18 = .ok (.getfield 47, 3) := by decide +kernel
theorem dX11_storm_21 : decode cX11_storm 21 = .ok (.iload_n 3, 1) := by decide +kernel
theorem dX11_storm_22 : decode cX11_storm 22 = .ok (.invokevirtual 177, 3) := by decide +kernel
theorem dX11_storm_25 : decode cX11_storm 25 = .ok (.istore 4, 2) := by decide +kernel
theorem dX11_storm_27 : decode cX11_storm 27 = .ok (.iload 4, 2) := by decide +kernel
theorem dX11_storm_29 : decode cX11_storm 29 = .ok (.iload_n 2, 1) := by decide +kernel
theorem dX11_storm_30 : decode cX11_storm 30 = .ok (.if_icmp .le 8, 3) := by decide +kernel
theorem dX11_storm_33 : decode cX11_storm 33 = .ok (.iload 4, 2) := by decide +kernel
theorem dX11_storm_35 : decode cX11_storm 35 = .ok (.istore_n 2, 1) := by decide +kernel
theorem dX11_storm_36 : decode cX11_storm 36 = .ok (.iload_n 3, 1) := by decide +kernel
theorem dX11_storm_37 : decode cX11_storm 37 = .ok (.istore_n 1, 1) := by decide +kernel
theorem dX11_storm_38 : decode cX11_storm 38 = .ok (.iinc 3 1, 3) := by decide +kernel
theorem dX11_storm_41 : decode cX11_storm 41 = .ok (.goto (-35), 3) := by decide +kernel
theorem dX11_storm_44 : decode cX11_storm 44 = .ok (.iload_n 1, 1) := by decide +kernel
theorem dX11_storm_45 : decode cX11_storm 45 = .ok (.ireturn, 1) := by decide +kernel
noncomputable def FX11_storm (a0 : Nat) : PP Int32 := bd (it (fun (s1 : Int32 × Int32 × Int32) => (bd (gI (rf a0 1) 10) (fun x2 => if x2 ≤ s1.2.2 then pu (Sum.inr s1.1) else bd (FX4_wind (rf a0 5) s1.2.2) (fun x3 => bd (if x3 ≤ s1.2.1 then pu (s1.1, s1.2.1) else pu (s1.2.2, x3) : PP (Int32 × Int32)) (fun (v4 : Int32 × Int32) => lt (s1.2.2 + (1 : Int32)) (fun y5 => pu (Sum.inl (v4.1, v4.2, y5)))))) : PP ((Int32 × Int32 × Int32) ⊕ (Int32)))) FU ((-1 : Int32), (-1 : Int32), (0 : Int32))) (fun (v6 : Int32) => pu v6)
set_option maxHeartbeats 4000000 in
set_option maxRecDepth 100000 in
theorem SX11_storm {l : Launch} {K : KK} {n : Nat} {hn : 270 ≤ n} (a0 : Nat) (h0 : ob a0 10) : CT l K n 1 mX11_storm [.ref (K.2.1 + a0)] enI (FX11_storm a0) := by
  refine CT.of2 (lv2 := [(0, .ref (K.2.1 + a0))]) (by decide) rfl hn (Nat.le_of_ble_eq_true rfl) rfl (rp_id ?_)
  unfold FX11_storm
  refine rp_iconst (-1 : Int32) dX11_storm_0 (by decide) ?_
  refine rp_istore_n [(1, .int (-1 : Int32)), (0, .ref (K.2.1 + a0))] dX11_storm_1 (by decide) rfl ?_
  refine rp_iconst (-1 : Int32) dX11_storm_2 (by decide) ?_
  refine rp_istore_n [(2, .int (-1 : Int32)), (1, .int (-1 : Int32)), (0, .ref (K.2.1 + a0))] dX11_storm_3 (by decide) rfl ?_
  refine rp_iconst (0 : Int32) dX11_storm_4 (by decide) ?_
  refine rp_istore_n [(3, .int (0 : Int32)), (2, .int (-1 : Int32)), (1, .int (-1 : Int32)), (0, .ref (K.2.1 + a0))] dX11_storm_5 (by decide) rfl ?_
  refine rp_as ?_
  refine rp_join 44 (fun v6 => [(1, .int v6)]) (fun _ => []) (fun v6 => ?_) (fun hX6_0 => ?_)
  · refine rp_iload_n 0 dX11_storm_44 rfl ?_
    exact rp_pu (rp_iret rfl dX11_storm_45)
  refine rp_sub [3, 2, 1, 0] rfl (rp_it (fun (s1 : Int32 × Int32 × Int32) => [(0, .ref (K.2.1 + a0)), (1, .int s1.1), (2, .int s1.2.1), (3, .int s1.2.2)]) (fun N6 ih6 s1 => ?_) FU ((-1 : Int32), (-1 : Int32), (0 : Int32)))
  refine rp_iload_n 3 dX11_storm_6 rfl ?_
  refine rp_aload_n 0 dX11_storm_7 rfl ?_
  refine rp_getR fi_X11_19 h0 rfl dX11_storm_8 ?_
  refine rp_getI fi_X11_186 (tX11_1 h0) rfl dX11_storm_11 (fun x2 => ?_)
  refine rp_icmp_ge 44 dX11_storm_14 (by decide) ?_ ?_
  · exact rp_sub [1] rfl (rp_puR (hX6_0 s1.1))
  · refine rp_aload_n 0 dX11_storm_17 rfl ?_
    refine rp_getR fi_X11_47 h0 rfl dX11_storm_18 ?_
    refine rp_iload_n 3 dX11_storm_21 rfl ?_
    refine rp_callVi [.int s1.2.2] (SX4_wind (hn := hn) (rf a0 5) s1.2.2 (tX11_5 h0)) cvX4_wind (mw (i := 823) (by decide +kernel)) (by omega) (tX11_5 h0) (by decide) rfl rfl rfl (Nat.le_of_ble_eq_true rfl) dX11_storm_22 (fun x3 => ?_)
    refine rp_istore [(4, .int x3), (0, .ref (K.2.1 + a0)), (1, .int s1.1), (2, .int s1.2.1), (3, .int s1.2.2)] dX11_storm_25 (by decide) rfl ?_
    refine rp_iload 0 dX11_storm_27 rfl ?_
    refine rp_iload_n 3 dX11_storm_29 rfl ?_
    refine rp_as ?_
    refine rp_join 38 (fun (v4 : Int32 × Int32) => [(0, .ref (K.2.1 + a0)), (1, .int v4.1), (2, .int v4.2), (3, .int s1.2.2)]) (fun v4 => []) (fun v4 => ?_) (fun hJ38 => ?_)
    · refine rp_iinc (fun y5 => [(3, .int y5), (0, .ref (K.2.1 + a0)), (1, .int v4.1), (2, .int v4.2)]) 3 dX11_storm_38 rfl (by rfl) (by decide) (fun y5 => rfl) (fun y5 => ?_)
      refine rp_goto 6 dX11_storm_41 (by decide) ?_
      exact rp_sub [1, 2, 3, 0] rfl (ih6 (v4.1, v4.2, y5))
    refine rp_icmp_le 38 dX11_storm_30 (by decide) ?_ ?_
    · exact rp_sub [1, 2, 3, 4] rfl (rp_pu (hJ38 (s1.1, s1.2.1)))
    · refine rp_iload 0 dX11_storm_33 rfl ?_
      refine rp_istore_n [(2, .int x3), (4, .int x3), (0, .ref (K.2.1 + a0)), (1, .int s1.1), (3, .int s1.2.2)] dX11_storm_35 (by decide) rfl ?_
      refine rp_iload_n 4 dX11_storm_36 rfl ?_
      refine rp_istore_n [(1, .int s1.2.2), (2, .int x3), (4, .int x3), (0, .ref (K.2.1 + a0)), (3, .int s1.2.2)] dX11_storm_37 (by decide) rfl ?_
      exact rp_sub [3, 0, 1, 4] rfl (rp_pu (hJ38 (s1.2.2, x3)))

theorem dX11_isStake_0 : decode cX11_isStake 0 = .ok (.iload_n 0, 1) := by decide +kernel
theorem dX11_isStake_1 : decode cX11_isStake 1 = .ok (.ifCond .lt 13, 3) := by decide +kernel
theorem dX11_isStake_4 : decode cX11_isStake 4 = .ok (.iload_n 0, 1) := by decide +kernel
theorem dX11_isStake_5 : decode cX11_isStake 5 = .ok (.bipush 9, 2) := by decide +kernel
theorem dX11_isStake_7 : decode cX11_isStake 7 = .ok (.if_icmp .gt 7, 3) := by decide +kernel
theorem dX11_isStake_10 : decode cX11_isStake 10 = .ok (.iconst 1, 1) := by decide +kernel
theorem dX11_isStake_11 : decode cX11_isStake 11 = .ok (.goto 4, 3) := by decide +kernel
theorem dX11_isStake_14 : decode cX11_isStake 14 = .ok (.iconst 0, 1) := by decide +kernel
theorem dX11_isStake_15 : decode cX11_isStake 15 = .ok (.ireturn, 1) := by decide +kernel
noncomputable def FX11_isStake (p1 : Int32) : PP Bool := bd (if p1 < 0 then pu (0 : Int32) else if (9 : Int32) < p1 then pu (0 : Int32) else pu (1 : Int32) : PP (Int32)) (fun (v1 : Int32) => zb v1)
set_option maxHeartbeats 4000000 in
set_option maxRecDepth 100000 in
theorem SX11_isStake {l : Launch} {K : KK} {n : Nat} {hn : 270 ≤ n} (p1 : Int32) : CT l K n 0 mX11_isStake [.int p1] enZ (FX11_isStake p1) := by
  refine CT.of2 (lv2 := [(0, .int p1)]) (by decide) rfl hn (Nat.le_of_ble_eq_true rfl) rfl (rp_id ?_)
  unfold FX11_isStake
  refine rp_iload_n 0 dX11_isStake_0 rfl ?_
  refine rp_as ?_
  refine rp_join 15 (fun (v1 : Int32) => []) (fun v1 => [.int v1]) (fun v1 => ?_) (fun hJ15 => ?_)
  · exact rp_zretb rfl dX11_isStake_15
  refine rp_if_lt 14 dX11_isStake_1 (by decide) ?_ ?_
  · refine rp_iconst (0 : Int32) dX11_isStake_14 (by decide) ?_
    exact rp_sub [] rfl (rp_pu (hJ15 (0 : Int32)))
  · refine rp_iload_n 0 dX11_isStake_4 rfl ?_
    refine rp_bipush (9 : Int32) dX11_isStake_5 (by decide) ?_
    refine rp_icmp_gt 14 dX11_isStake_7 (by decide) ?_ ?_
    · refine rp_iconst (0 : Int32) dX11_isStake_14 (by decide) ?_
      exact rp_sub [] rfl (rp_pu (hJ15 (0 : Int32)))
    · refine rp_iconst (1 : Int32) dX11_isStake_10 (by decide) ?_
      refine rp_goto 15 dX11_isStake_11 (by decide) ?_
      exact rp_sub [] rfl (rp_pu (hJ15 (1 : Int32)))

theorem dX11_gain_0 : decode cX11_gain 0 = .ok (.iload_n 3, 1) := by decide +kernel
theorem dX11_gain_1 : decode cX11_gain 1 = .ok (.iconst 1, 1) := by decide +kernel
theorem dX11_gain_2 : decode cX11_gain 2 = .ok (.if_icmp .ne 16, 3) := by decide +kernel
theorem dX11_gain_5 : decode cX11_gain 5 = .ok (.iload 4, 2) := by decide +kernel
theorem dX11_gain_7 : decode cX11_gain 7 = .ok (.iconst 1, 1) := by decide +kernel
theorem dX11_gain_8 : decode cX11_gain 8 = .ok (.if_icmp .ne 7, 3) := by decide +kernel
theorem dX11_gain_11 : decode cX11_gain 11 = .ok (.iload_n 0, 1) := by decide +kernel
theorem dX11_gain_12 : decode cX11_gain 12 = .ok (.goto 5, 3) := by decide +kernel
theorem dX11_gain_15 : decode cX11_gain 15 = .ok (.iload_n 1, 1) := by decide +kernel
theorem dX11_gain_16 : decode cX11_gain 16 = .ok (.ineg, 1) := by decide +kernel
theorem dX11_gain_17 : decode cX11_gain 17 = .ok (.ireturn, 1) := by decide +kernel
theorem dX11_gain_18 : decode cX11_gain 18 = .ok (.iload 4, 2) := by decide +kernel
theorem dX11_gain_20 : decode cX11_gain 20 = .ok (.iconst 1, 1) := by decide +kernel
theorem dX11_gain_21 : decode cX11_gain 21 = .ok (.if_icmp .ne 7, 3) := by decide +kernel
theorem dX11_gain_24 : decode cX11_gain 24 = .ok (.iload_n 2, 1) := by decide +kernel
theorem dX11_gain_25 : decode cX11_gain 25 = .ok (.goto 4, 3) := by decide +kernel
theorem dX11_gain_28 : decode cX11_gain 28 = .ok (.iconst 0, 1) := by decide +kernel
theorem dX11_gain_29 : decode cX11_gain 29 = .ok (.ireturn, 1) := by decide +kernel
noncomputable def FX11_gain (p1 : Int32) (p2 : Int32) (p3 : Int32) (p4 : Int32) (p5 : Int32) : PP Int32 := if p4 = (1 : Int32) then bd (if p5 = (1 : Int32) then pu p1 else pu (-p2) : PP (Int32)) (fun (v2 : Int32) => pu v2) else bd (if p5 = (1 : Int32) then pu p3 else pu (0 : Int32) : PP (Int32)) (fun (v1 : Int32) => pu v1)
set_option maxHeartbeats 4000000 in
set_option maxRecDepth 100000 in
theorem SX11_gain {l : Launch} {K : KK} {n : Nat} {hn : 270 ≤ n} (p1 : Int32) (p2 : Int32) (p3 : Int32) (p4 : Int32) (p5 : Int32) : CT l K n 0 mX11_gain [.int p1, .int p2, .int p3, .int p4, .int p5] enI (FX11_gain p1 p2 p3 p4 p5) := by
  refine CT.of2 (lv2 := [(0, .int p1), (1, .int p2), (2, .int p3), (3, .int p4), (4, .int p5)]) (by decide) rfl hn (Nat.le_of_ble_eq_true rfl) rfl (rp_id ?_)
  unfold FX11_gain
  refine rp_iload_n 3 dX11_gain_0 rfl ?_
  refine rp_iconst (1 : Int32) dX11_gain_1 (by decide) ?_
  refine rp_icmp_ne 18 dX11_gain_2 (by decide) ?_ ?_
  · refine rp_iload 4 dX11_gain_18 rfl ?_
    refine rp_iconst (1 : Int32) dX11_gain_20 (by decide) ?_
    refine rp_as ?_
    refine rp_join 29 (fun (v1 : Int32) => []) (fun v1 => [.int v1]) (fun v1 => ?_) (fun hJ29 => ?_)
    · exact rp_pu (rp_iret rfl dX11_gain_29)
    refine rp_icmp_ne 28 dX11_gain_21 (by decide) ?_ ?_
    · refine rp_iconst (0 : Int32) dX11_gain_28 (by decide) ?_
      exact rp_sub [] rfl (rp_pu (hJ29 (0 : Int32)))
    · refine rp_iload_n 2 dX11_gain_24 rfl ?_
      refine rp_goto 29 dX11_gain_25 (by decide) ?_
      exact rp_sub [] rfl (rp_pu (hJ29 p3))
  · refine rp_iload 4 dX11_gain_5 rfl ?_
    refine rp_iconst (1 : Int32) dX11_gain_7 (by decide) ?_
    refine rp_as ?_
    refine rp_join 17 (fun (v2 : Int32) => []) (fun v2 => [.int v2]) (fun v2 => ?_) (fun hJ17 => ?_)
    · exact rp_pu (rp_iret rfl dX11_gain_17)
    refine rp_icmp_ne 15 dX11_gain_8 (by decide) ?_ ?_
    · refine rp_iload_n 1 dX11_gain_15 rfl ?_
      refine rp_ineg dX11_gain_16 ?_
      exact rp_sub [] rfl (rp_pu (hJ17 (-p2)))
    · refine rp_iload_n 0 dX11_gain_11 rfl ?_
      refine rp_goto 17 dX11_gain_12 (by decide) ?_
      exact rp_sub [] rfl (rp_pu (hJ17 p1))

theorem dX11_isRest_0 : decode cX11_isRest 0 = .ok (.iload_n 3, 1) := by decide +kernel
theorem dX11_isRest_1 : decode cX11_isRest 1 = .ok (.iconst 1, 1) := by decide +kernel
theorem dX11_isRest_2 : decode cX11_isRest 2 = .ok (.ishr, 1) := by decide +kernel
theorem dX11_isRest_3 : decode cX11_isRest 3 = .ok (.istore 4, 2) := by decide +kernel
theorem dX11_isRest_5 : decode cX11_isRest 5 = .ok (.iload_n 3, 1) := by decide +kernel
theorem dX11_isRest_6 : decode cX11_isRest 6 = .ok (.iconst 1, 1) := by decide +kernel
theorem dX11_isRest_7 : decode cX11_isRest 7 = .ok (.iand, 1) := by decide +kernel
theorem dX11_isRest_8 : decode cX11_isRest 8 = .ok (.istore 5, 2) := by decide +kernel
theorem dX11_isRest_10 : decode cX11_isRest 10 = .ok (.iload_n 0, 1) := by decide +kernel
theorem dX11_isRest_11 : decode cX11_isRest 11 = .ok (.iload_n 1, 1) := by decide +kernel
theorem dX11_isRest_12 : decode cX11_isRest 12 = .ok (.iload_n 2, 1) := by decide +kernel
theorem dX11_isRest_13 : decode cX11_isRest 13 = .ok (.iload 4, 2) := by decide +kernel
theorem dX11_isRest_15 : decode cX11_isRest 15 = .ok (.iload 5, 2) := by decide +kernel
theorem dX11_isRest_17 : decode cX11_isRest 17 = .ok (.invokestatic 324, 3) := by decide +kernel
theorem dX11_isRest_20 : decode cX11_isRest 20 = .ok (.iload_n 0, 1) := by decide +kernel
theorem dX11_isRest_21 : decode cX11_isRest 21 = .ok (.iload_n 1, 1) := by decide +kernel
theorem dX11_isRest_22 : decode cX11_isRest 22 = .ok (.iload_n 2, 1) := by decide +kernel
theorem dX11_isRest_23 : decode cX11_isRest 23 = .ok (.iconst 1, 1) := by decide +kernel
theorem dX11_isRest_24 : decode cX11_isRest 24 = .ok (.iload 4, 2) := by decide +kernel
theorem dX11_isRest_26 : decode cX11_isRest 26 = .ok (.isub, 1) := by decide +kernel
theorem dX11_isRest_27 : decode cX11_isRest 27 = .ok (.iload 5, 2) := by decide +kernel
theorem dX11_isRest_29 : decode cX11_isRest 29 = .ok (.invokestatic 324, 3) := by decide +kernel
theorem dX11_isRest_32 : decode cX11_isRest 32 = .ok (.if_icmp .lt 32, 3) := by decide +kernel
theorem dX11_isRest_35 : decode cX11_isRest 35 = .ok (.iload_n 0, 1) := by decide +kernel
theorem dX11_isRest_36 : decode cX11_isRest 36 = .ok (.iload_n 1, 1) := by decide +kernel
theorem dX11_isRest_37 : decode cX11_isRest 37 = .ok (.iload_n 2, 1) := by decide +kernel
theorem dX11_isRest_38 : decode cX11_isRest 38 = .ok (.iload 5, 2) := by decide +kernel
theorem dX11_isRest_40 : decode cX11_isRest 40 = .ok (.iload 4, 2) := by decide +kernel
theorem dX11_isRest_42 : decode cX11_isRest 42 = .ok (.invokestatic 324, 3) := by decide +kernel
theorem dX11_isRest_45 : decode cX11_isRest 45 = .ok (.iload_n 0, 1) := by decide +kernel
theorem dX11_isRest_46 : decode cX11_isRest 46 = .ok (.iload_n 1, 1) := by decide +kernel
theorem dX11_isRest_47 : decode cX11_isRest 47 = .ok (.iload_n 2, 1) := by decide +kernel
theorem dX11_isRest_48 : decode cX11_isRest 48 = .ok (.iconst 1, 1) := by decide +kernel
theorem dX11_isRest_49 : decode cX11_isRest 49 = .ok (.iload 5, 2) := by decide +kernel
theorem dX11_isRest_51 : decode cX11_isRest 51 = .ok (.isub, 1) := by decide +kernel
theorem dX11_isRest_52 : decode cX11_isRest 52 = .ok (.iload 4, 2) := by decide +kernel
theorem dX11_isRest_54 : decode cX11_isRest 54 = .ok (.invokestatic 324, 3) := by decide +kernel
theorem dX11_isRest_57 : decode cX11_isRest 57 = .ok (.if_icmp .lt 7, 3) := by decide +kernel
theorem dX11_isRest_60 : decode cX11_isRest 60 = .ok (.iconst 1, 1) := by decide +kernel
theorem dX11_isRest_61 : decode cX11_isRest 61 = .ok (.goto 4, 3) := by decide +kernel
theorem dX11_isRest_64 : decode cX11_isRest 64 = .ok (.iconst 0, 1) := by decide +kernel
theorem dX11_isRest_65 : decode cX11_isRest 65 = .ok (.ireturn, 1) := by decide +kernel
noncomputable def FX11_isRest (p1 : Int32) (p2 : Int32) (p3 : Int32) (p4 : Int32) : PP Bool := lt (p4 >>> ((1 : Int32) &&& 31)) (fun y1 => lt (p4 &&& (1 : Int32)) (fun y2 => bd (FX11_gain p1 p2 p3 y1 y2) (fun x3 => bd (FX11_gain p1 p2 p3 ((1 : Int32) - y1) y2) (fun x4 => bd (if x3 < x4 then pu (0 : Int32) else bd (FX11_gain p1 p2 p3 y2 y1) (fun x5 => bd (FX11_gain p1 p2 p3 ((1 : Int32) - y2) y1) (fun x6 => if x5 < x6 then pu (0 : Int32) else pu (1 : Int32))) : PP (Int32)) (fun (v7 : Int32) => zb v7)))))
set_option maxHeartbeats 4000000 in
set_option maxRecDepth 100000 in
theorem SX11_isRest {l : Launch} {K : KK} {n : Nat} {hn : 270 ≤ n} (p1 : Int32) (p2 : Int32) (p3 : Int32) (p4 : Int32) : CT l K n 1 mX11_isRest [.int p1, .int p2, .int p3, .int p4] enZ (FX11_isRest p1 p2 p3 p4) := by
  refine CT.of2 (lv2 := [(0, .int p1), (1, .int p2), (2, .int p3), (3, .int p4)]) (by decide) rfl hn (Nat.le_of_ble_eq_true rfl) rfl (rp_id ?_)
  unfold FX11_isRest
  refine rp_iload_n 3 dX11_isRest_0 rfl ?_
  refine rp_iconst (1 : Int32) dX11_isRest_1 (by decide) ?_
  refine rp_ishr dX11_isRest_2 ?_
  refine rp_lti (fun y1 => ?_)
  refine rp_istore [(4, .int y1), (0, .int p1), (1, .int p2), (2, .int p3), (3, .int p4)] dX11_isRest_3 (by decide) rfl ?_
  refine rp_iload_n 4 dX11_isRest_5 rfl ?_
  refine rp_iconst (1 : Int32) dX11_isRest_6 (by decide) ?_
  refine rp_iand dX11_isRest_7 ?_
  refine rp_lti (fun y2 => ?_)
  refine rp_istore [(5, .int y2), (4, .int y1), (0, .int p1), (1, .int p2), (2, .int p3), (3, .int p4)] dX11_isRest_8 (by decide) rfl ?_
  refine rp_iload_n 2 dX11_isRest_10 rfl ?_
  refine rp_iload_n 3 dX11_isRest_11 rfl ?_
  refine rp_iload_n 4 dX11_isRest_12 rfl ?_
  refine rp_iload 1 dX11_isRest_13 rfl ?_
  refine rp_iload 0 dX11_isRest_15 rfl ?_
  refine rp_callSi [.int p1, .int p2, .int p3, .int y1, .int y2] (SX11_gain (hn := hn) p1 p2 p3 y1 y2) csX11_gain (mw (i := 1250) (by decide +kernel)) (by omega) rfl rfl (Nat.le_of_ble_eq_true rfl) dX11_isRest_17 (fun x3 => ?_)
  refine rp_iload_n 2 dX11_isRest_20 rfl ?_
  refine rp_iload_n 3 dX11_isRest_21 rfl ?_
  refine rp_iload_n 4 dX11_isRest_22 rfl ?_
  refine rp_iconst (1 : Int32) dX11_isRest_23 (by decide) ?_
  refine rp_iload 1 dX11_isRest_24 rfl ?_
  refine rp_isub dX11_isRest_26 ?_
  refine rp_iload 0 dX11_isRest_27 rfl ?_
  refine rp_callSi [.int p1, .int p2, .int p3, .int ((1 : Int32) - y1), .int y2] (SX11_gain (hn := hn) p1 p2 p3 ((1 : Int32) - y1) y2) csX11_gain (mw (i := 1250) (by decide +kernel)) (by omega) rfl rfl (Nat.le_of_ble_eq_true rfl) dX11_isRest_29 (fun x4 => ?_)
  refine rp_as ?_
  refine rp_join 65 (fun (v7 : Int32) => []) (fun v7 => [.int v7]) (fun v7 => ?_) (fun hJ65 => ?_)
  · exact rp_zretb rfl dX11_isRest_65
  refine rp_icmp_lt 64 dX11_isRest_32 (by decide) ?_ ?_
  · refine rp_iconst (0 : Int32) dX11_isRest_64 (by decide) ?_
    exact rp_sub [] rfl (rp_pu (hJ65 (0 : Int32)))
  · refine rp_iload_n 2 dX11_isRest_35 rfl ?_
    refine rp_iload_n 3 dX11_isRest_36 rfl ?_
    refine rp_iload_n 4 dX11_isRest_37 rfl ?_
    refine rp_iload 0 dX11_isRest_38 rfl ?_
    refine rp_iload 1 dX11_isRest_40 rfl ?_
    refine rp_callSi [.int p1, .int p2, .int p3, .int y2, .int y1] (SX11_gain (hn := hn) p1 p2 p3 y2 y1) csX11_gain (mw (i := 1250) (by decide +kernel)) (by omega) rfl rfl (Nat.le_of_ble_eq_true rfl) dX11_isRest_42 (fun x5 => ?_)
    refine rp_iload_n 2 dX11_isRest_45 rfl ?_
    refine rp_iload_n 3 dX11_isRest_46 rfl ?_
    refine rp_iload_n 4 dX11_isRest_47 rfl ?_
    refine rp_iconst (1 : Int32) dX11_isRest_48 (by decide) ?_
    refine rp_iload 0 dX11_isRest_49 rfl ?_
    refine rp_isub dX11_isRest_51 ?_
    refine rp_iload 1 dX11_isRest_52 rfl ?_
    refine rp_callSi [.int p1, .int p2, .int p3, .int ((1 : Int32) - y2), .int y1] (SX11_gain (hn := hn) p1 p2 p3 ((1 : Int32) - y2) y1) csX11_gain (mw (i := 1250) (by decide +kernel)) (by omega) rfl rfl (Nat.le_of_ble_eq_true rfl) dX11_isRest_54 (fun x6 => ?_)
    refine rp_icmp_lt 64 dX11_isRest_57 (by decide) ?_ ?_
    · refine rp_iconst (0 : Int32) dX11_isRest_64 (by decide) ?_
      exact rp_sub [] rfl (rp_pu (hJ65 (0 : Int32)))
    · refine rp_iconst (1 : Int32) dX11_isRest_60 (by decide) ?_
      refine rp_goto 65 dX11_isRest_61 (by decide) ?_
      exact rp_sub [] rfl (rp_pu (hJ65 (1 : Int32)))

theorem dX11_mays_0 : decode cX11_mays 0 = .ok (.iload_n 1, 1) := by decide +kernel
theorem dX11_mays_1 : decode cX11_mays 1 = .ok (.ifCond .lt 30, 3) := by decide +kernel
theorem dX11_mays_4 : decode cX11_mays 4 = .ok (.iload_n 1, 1) := by decide +kernel
theorem dX11_mays_5 : decode cX11_mays 5 = .ok (.sipush 9999, 3) := by decide +kernel
theorem dX11_mays_8 : decode cX11_mays 8 = .ok (.if_icmp .gt 23, 3) := by decide +kernel
theorem dX11_mays_11 : decode cX11_mays 11 = .ok (.iload_n 2, 1) := by decide +kernel
theorem dX11_mays_12 : decode cX11_mays 12 = .ok (.iconst 1, 1) := by decide +kernel
theorem dX11_mays_13 : decode cX11_mays 13 = .ok (.if_icmp .lt 18, 3) := by decide +kernel
theorem dX11_mays_16 : decode cX11_mays 16 = .ok (.iload_n 2, 1) := by decide +kernel
theorem dX11_mays_17 : decode cX11_mays 17 = .ok (.bipush 99, 2) := by decide +kernel
theorem dX11_mays_19 : decode cX11_mays 19 = .ok (.if_icmp .gt 12, 3) := by decide +kernel
theorem dX11_mays_22 : decode cX11_mays 22 = .ok (.iload_n 3, 1) := by decide +kernel
theorem dX11_mays_23 : decode cX11_mays 23 = .ok (.ifCond .lt 8, 3) := by decide +kernel
theorem dX11_mays_26 : decode cX11_mays 26 = .ok (.iload_n 3, 1) := by decide +kernel
theorem dX11_mays_27 : decode cX11_mays 27 = .ok (.iconst 2, 1) := by decide +kernel
theorem dX11_mays_28 : decode cX11_mays 28 = .ok (.if_icmp .le 5, 3) := by decide +kernel
theorem dX11_mays_31 : decode cX11_mays 31 = .ok (.iconst (-1), 1) := by decide +kernel
theorem dX11_mays_32 : decode cX11_mays 32 = .ok (.ireturn, 1) := by decide +kernel
theorem dX11_mays_33 : decode cX11_mays 33 = .ok (.aload_n 0, 1) := by decide +kernel
theorem dX11_mays_34 : decode cX11_mays 34 = .ok (.getfield 51, 3) := by decide +kernel
theorem dX11_mays_37 : decode cX11_mays 37 = .ok (.aload_n 0, 1) := by decide +kernel
theorem dX11_mays_38 : decode cX11_mays 38 = .ok (.getfield 47, 3) := by decide +kernel
theorem dX11_mays_41 : decode cX11_mays 41 = .ok (.invokevirtual 260, 3) := by decide +kernel
theorem dX11_mays_44 : decode cX11_mays 44 = .ok (.aload_n 0, 1) := by decide +kernel
theorem dX11_mays_45 : decode cX11_mays 45 = .ok (.getfield 51, 3) := by decide +kernel
theorem dX11_mays_48 : decode cX11_mays 48 = .ok (.iload_n 1, 1) := by decide +kernel
theorem dX11_mays_49 : decode cX11_mays 49 = .ok (.i2l, 1) := by decide +kernel
theorem dX11_mays_50 : decode cX11_mays 50 = .ok (.putfield 328, 3) := by decide +kernel
theorem dX11_mays_53 : decode cX11_mays 53 = .ok (.iconst 0, 1) := by decide +kernel
theorem dX11_mays_54 : decode cX11_mays 54 = .ok (.istore 4, 2) := by decide +kernel
theorem dX11_mays_56 : decode cX11_mays 56 = .ok (.iconst 0, 1) := by decide +kernel
theorem dX11_mays_57 : decode cX11_mays 57 = .ok (.istore 5, 2) := by decide +kernel
theorem dX11_mays_59 : decode cX11_mays 59 = .ok (.iconst 0, 1) := by decide +kernel
theorem dX11_mays_60 : decode cX11_mays 60 = .ok (.istore 6, 2) := by decide +kernel
theorem dX11_mays_62 : decode cX11_mays 62 = .ok (.iload 6, 2) := by decide +kernel
theorem dX11_mays_64 : decode cX11_mays 64 = .ok (.iload_n 2, 1) := by decide +kernel
theorem dX11_mays_65 : decode cX11_mays 65 = .ok (.if_icmp .ge 64, 3) := by decide +kernel
theorem dX11_mays_68 : decode cX11_mays 68 = .ok (.aload_n 0, 1) := by decide +kernel
theorem dX11_mays_69 : decode cX11_mays 69 = .ok (.getfield 19, 3) := by decide +kernel
theorem dX11_mays_72 : decode cX11_mays 72 = .ok (.getfield 183, 3) := by decide +kernel
theorem dX11_mays_75 : decode cX11_mays 75 = .ok (.ifCond .le 26, 3) := by decide +kernel
theorem dX11_mays_78 : decode cX11_mays 78 = .ok (.aload_n 0, 1) := by decide +kernel
theorem dX11_mays_79 : decode cX11_mays 79 = .ok (.getfield 19, 3) := by decide +kernel
theorem dX11_mays_82 : decode cX11_mays 82 = .ok (.getfield 189, 3) := by decide +kernel
theorem dX11_mays_85 : decode cX11_mays 85 = .ok (.ifCond .le 16, 3) := by decide +kernel
theorem dX11_mays_88 : decode cX11_mays 88 = .ok (.aload_n 0, 1) := by decide +kernel
theorem dX11_mays_89 : decode cX11_mays 89 = .ok (.getfield 51, 3) := by decide +kernel
theorem dX11_mays_92 : decode cX11_mays 92 = .ok (.invokevirtual 332, 3) := by decide +kernel
theorem dX11_mays_95 : decode cX11_mays 95 = .ok (.ifCond .eq 6, 3) := by decide +kernel
theorem dX11_mays_98 : decode cX11_mays 98 = .ok (.iinc 5 1, 3) := by decide +kernel
theorem dX11_mays_101 : decode cX11_mays 101 = .ok (.aload_n 0, 1) := by decide +kernel
theorem dX11_mays_102 : decode cX11_mays 102 = .ok (.getfield 51, 3) := by decide +kernel
theorem dX11_mays_105 : decode cX11_mays 105 = .ok (.iconst 1, 1) := by decide +kernel
theorem dX11_mays_106 : decode cX11_mays 106 = .ok (.invokevirtual 231, 3) := by decide +kernel
theorem dX11_mays_109 : decode cX11_mays 109 = .ok (.pop, 1) := by decide +kernel
theorem dX11_mays_110 : decode cX11_mays 110 = .ok (.aload_n 0, 1) := by decide +kernel
theorem dX11_mays_111 : decode cX11_mays 111 = .ok (.getfield 51, 3) := by decide +kernel
theorem dX11_mays_114 : decode cX11_mays 114 = .ok (.invokevirtual 336, 3) := by decide +kernel
theorem dX11_mays_117 : decode cX11_mays 117 = .ok (.ifCond .ne 6, 3) := by decide +kernel
theorem dX11_mays_120 : decode cX11_mays 120 = .ok (.iinc 4 1, 3) := by decide +kernel
theorem dX11_mays_123 : decode cX11_mays 123 = .ok (.iinc 6 1, 3) := by decide +kernel
theorem dX11_mays_126 : decode cX11_mays 126 = .ok (.goto (-64), 3) := by decide +kernel
theorem dX11_mays_129 : decode cX11_mays 129 = .ok (.iload_n 3, 1) := by decide +kernel
theorem dX11_mays_130 : decode cX11_mays 130 = .ok (.ifCond .ne 6, 3) := by decide +kernel
theorem dX11_mays_133 : decode cX11_mays 133 = .ok (.iload 4, 2) := by decide +kernel
theorem dX11_mays_135 : decode cX11_mays 135 = .ok (.ireturn, 1) := by decide +kernel
theorem dX11_mays_136 : decode cX11_mays 136 = .ok (.iload_n 3, 1) := by decide +kernel
theorem dX11_mays_137 : decode cX11_mays 137 = .ok (.iconst 1, 1) := by decide +kernel
theorem dX11_mays_138 : decode cX11_mays 138 = .ok (.if_icmp .ne 8, 3) := by decide +kernel
theorem dX11_mays_141 : decode cX11_mays 141 = .ok (.iload 5, 2) := by decide +kernel
theorem dX11_mays_143 : decode cX11_mays 143 = .ok (.goto 10, 3) := by decide +kernel
theorem dX11_mays_146 : decode cX11_mays 146 = .ok (.aload_n 0, 1) := by decide +kernel
theorem dX11_mays_147 : decode cX11_mays 147 = .ok (.getfield 51, 3) := by decide +kernel
theorem dX11_mays_150 : decode cX11_mays 150 = .ok (.invokevirtual 195, 3) := by decide +kernel
theorem dX11_mays_153 : decode cX11_mays 153 = .ok (.ireturn, 1) := by decide +kernel
noncomputable def FX11_mays (a0 : Nat) (p1 : Int32) (p2 : Int32) (p3 : Int32) : PP Int32 := if p1 < 0 then pu (-1 : Int32) else if (9999 : Int32) < p1 then pu (-1 : Int32) else if p2 < (1 : Int32) then pu (-1 : Int32) else if (99 : Int32) < p2 then pu (-1 : Int32) else if p3 < 0 then pu (-1 : Int32) else if p3 ≤ (2 : Int32) then bd (FX4_copyFrom (rf a0 6) (rf a0 5)) (fun (_ : Unit) => bd (sL (rf a0 6) 6 p1.toInt64) (fun (_ : Unit) => bd (it (fun (s2 : Int32 × Int32 × Int32) => (if p2 ≤ s2.2.2 then pu (Sum.inr (s2.1, s2.2.1)) else bd (gI (rf a0 1) 9) (fun x3 => bd (if x3 ≤ 0 then pu s2.2.1 else bd (gI (rf a0 1) 11) (fun x4 => if x4 ≤ 0 then pu s2.2.1 else bd (FX4_drawOne (rf a0 6)) (fun x5 => if ((b2i x5)) = 0 then pu s2.2.1 else lt (s2.2.1 + (1 : Int32)) (fun y6 => pu y6))) : PP (Int32)) (fun (v7 : Int32) => bd (FX4_passHour (rf a0 6) (1 : Int32)) (fun x8 => bd (FX4_thunders (rf a0 6)) (fun x9 => bd (if ((b2i x9)) = 0 then lt (s2.1 + (1 : Int32)) (fun y10 => pu y10) else pu s2.1 : PP (Int32)) (fun (v11 : Int32) => lt (s2.2.2 + (1 : Int32)) (fun y12 => pu (Sum.inl (v11, v7, y12)))))))) : PP ((Int32 × Int32 × Int32) ⊕ (Int32 × Int32)))) FU ((0 : Int32), (0 : Int32), (0 : Int32))) (fun (v13 : Int32 × Int32) => if p3 = 0 then pu v13.1 else bd (if p3 = (1 : Int32) then pu v13.2 else bd (FX4_hanging (rf a0 6)) (fun x14 => pu x14) : PP (Int32)) (fun (v15 : Int32) => pu v15)))) else pu (-1 : Int32)
set_option maxHeartbeats 4000000 in
set_option maxRecDepth 100000 in
theorem SX11_mays {l : Launch} {K : KK} {n : Nat} {hn : 270 ≤ n} (a0 : Nat) (p1 : Int32) (p2 : Int32) (p3 : Int32) (h0 : ob a0 10) : CT l K n 4 mX11_mays [.ref (K.2.1 + a0), .int p1, .int p2, .int p3] enI (FX11_mays a0 p1 p2 p3) := by
  refine CT.of2 (lv2 := [(0, .ref (K.2.1 + a0)), (1, .int p1), (2, .int p2), (3, .int p3)]) (by decide) rfl hn (Nat.le_of_ble_eq_true rfl) rfl (rp_id ?_)
  unfold FX11_mays
  refine rp_iload_n 1 dX11_mays_0 rfl ?_
  refine rp_if_lt 31 dX11_mays_1 (by decide) ?_ ?_
  · refine rp_iconst (-1 : Int32) dX11_mays_31 (by decide) ?_
    exact rp_pu (rp_iret rfl dX11_mays_32)
  · refine rp_iload_n 1 dX11_mays_4 rfl ?_
    refine rp_sipush (9999 : Int32) dX11_mays_5 (by decide) ?_
    refine rp_icmp_gt 31 dX11_mays_8 (by decide) ?_ ?_
    · refine rp_iconst (-1 : Int32) dX11_mays_31 (by decide) ?_
      exact rp_pu (rp_iret rfl dX11_mays_32)
    · refine rp_iload_n 2 dX11_mays_11 rfl ?_
      refine rp_iconst (1 : Int32) dX11_mays_12 (by decide) ?_
      refine rp_icmp_lt 31 dX11_mays_13 (by decide) ?_ ?_
      · refine rp_iconst (-1 : Int32) dX11_mays_31 (by decide) ?_
        exact rp_pu (rp_iret rfl dX11_mays_32)
      · refine rp_iload_n 2 dX11_mays_16 rfl ?_
        refine rp_bipush (99 : Int32) dX11_mays_17 (by decide) ?_
        refine rp_icmp_gt 31 dX11_mays_19 (by decide) ?_ ?_
        · refine rp_iconst (-1 : Int32) dX11_mays_31 (by decide) ?_
          exact rp_pu (rp_iret rfl dX11_mays_32)
        · refine rp_iload_n 3 dX11_mays_22 rfl ?_
          refine rp_if_lt 31 dX11_mays_23 (by decide) ?_ ?_
          · refine rp_iconst (-1 : Int32) dX11_mays_31 (by decide) ?_
            exact rp_pu (rp_iret rfl dX11_mays_32)
          · refine rp_iload_n 3 dX11_mays_26 rfl ?_
            refine rp_iconst (2 : Int32) dX11_mays_27 (by decide) ?_
            refine rp_icmp_le 33 dX11_mays_28 (by decide) ?_ ?_
            · refine rp_aload_n 0 dX11_mays_33 rfl ?_
              refine rp_getR fi_X11_51 h0 rfl dX11_mays_34 ?_
              refine rp_aload_n 0 dX11_mays_37 rfl ?_
              refine rp_getR fi_X11_47 h0 rfl dX11_mays_38 ?_
              refine rp_callVv [.ref (K.2.1 + (rf a0 5))] (SX4_copyFrom (hn := hn) (rf a0 6) (rf a0 5) (tX11_6 h0) (tX11_5 h0)) cvX4_copyFrom (mw (i := 988) (by decide +kernel)) (by omega) (tX11_6 h0) (by decide) rfl rfl rfl (Nat.le_of_ble_eq_true rfl) dX11_mays_41 (fun x1 => ?_)
              refine rp_aload_n 0 dX11_mays_44 rfl ?_
              refine rp_getR fi_X11_51 h0 rfl dX11_mays_45 ?_
              refine rp_iload_n 1 dX11_mays_48 rfl ?_
              refine rp_i2l dX11_mays_49 ?_
              refine rp_putL fi_X11_328 fp_X4_6 (tX11_6 h0) rfl dX11_mays_50 ?_
              refine rp_iconst (0 : Int32) dX11_mays_53 (by decide) ?_
              refine rp_istore [(4, .int (0 : Int32)), (0, .ref (K.2.1 + a0)), (1, .int p1), (2, .int p2), (3, .int p3)] dX11_mays_54 (by decide) rfl ?_
              refine rp_iconst (0 : Int32) dX11_mays_56 (by decide) ?_
              refine rp_istore [(5, .int (0 : Int32)), (4, .int (0 : Int32)), (0, .ref (K.2.1 + a0)), (1, .int p1), (2, .int p2), (3, .int p3)] dX11_mays_57 (by decide) rfl ?_
              refine rp_iconst (0 : Int32) dX11_mays_59 (by decide) ?_
              refine rp_istore [(6, .int (0 : Int32)), (5, .int (0 : Int32)), (4, .int (0 : Int32)), (0, .ref (K.2.1 + a0)), (1, .int p1), (2, .int p2), (3, .int p3)] dX11_mays_60 (by decide) rfl ?_
              refine rp_as ?_
              refine rp_join 129 (fun v13 => [(0, .ref (K.2.1 + a0)), (3, .int p3), (4, .int v13.1), (5, .int v13.2)]) (fun _ => []) (fun v13 => ?_) (fun hX62_0 => ?_)
              · refine rp_iload_n 1 dX11_mays_129 rfl ?_
                refine rp_if_ne 136 dX11_mays_130 (by decide) ?_ ?_
                · refine rp_iload_n 1 dX11_mays_136 rfl ?_
                  refine rp_iconst (1 : Int32) dX11_mays_137 (by decide) ?_
                  refine rp_as ?_
                  refine rp_join 153 (fun (v15 : Int32) => []) (fun v15 => [.int v15]) (fun v15 => ?_) (fun hJ153 => ?_)
                  · exact rp_pu (rp_iret rfl dX11_mays_153)
                  refine rp_icmp_ne 146 dX11_mays_138 (by decide) ?_ ?_
                  · refine rp_aload_n 0 dX11_mays_146 rfl ?_
                    refine rp_getR fi_X11_51 h0 rfl dX11_mays_147 ?_
                    refine rp_callVi [] (SX4_hanging (hn := hn) (rf a0 6) (tX11_6 h0)) cvX4_hanging (mw (i := 831) (by decide +kernel)) (by omega) (tX11_6 h0) (by decide) rfl rfl rfl (Nat.le_of_ble_eq_true rfl) dX11_mays_150 (fun x14 => ?_)
                    exact rp_sub [] rfl (rp_pu (hJ153 x14))
                  · refine rp_iload 3 dX11_mays_141 rfl ?_
                    refine rp_goto 153 dX11_mays_143 (by decide) ?_
                    exact rp_sub [] rfl (rp_pu (hJ153 v13.2))
                · refine rp_iload 2 dX11_mays_133 rfl ?_
                  exact rp_pu (rp_iret rfl dX11_mays_135)
              refine rp_sub [3, 5, 6, 2, 1, 0] rfl (rp_it (fun (s2 : Int32 × Int32 × Int32) => [(0, .ref (K.2.1 + a0)), (2, .int p2), (3, .int p3), (4, .int s2.1), (5, .int s2.2.1), (6, .int s2.2.2)]) (fun N62 ih62 s2 => ?_) FU ((0 : Int32), (0 : Int32), (0 : Int32)))
              refine rp_iload 5 dX11_mays_62 rfl ?_
              refine rp_iload_n 1 dX11_mays_64 rfl ?_
              refine rp_icmp_ge 129 dX11_mays_65 (by decide) ?_ ?_
              · exact rp_sub [0, 2, 3, 4] rfl (rp_puR (hX62_0 (s2.1, s2.2.1)))
              · refine rp_aload_n 0 dX11_mays_68 rfl ?_
                refine rp_getR fi_X11_19 h0 rfl dX11_mays_69 ?_
                refine rp_getI fi_X11_183 (tX11_1 h0) rfl dX11_mays_72 (fun x3 => ?_)
                refine rp_as ?_
                refine rp_join 101 (fun (v7 : Int32) => [(0, .ref (K.2.1 + a0)), (2, .int p2), (3, .int p3), (4, .int s2.1), (5, .int v7), (6, .int s2.2.2)]) (fun v7 => []) (fun v7 => ?_) (fun hJ101 => ?_)
                · refine rp_aload_n 0 dX11_mays_101 rfl ?_
                  refine rp_getR fi_X11_51 h0 rfl dX11_mays_102 ?_
                  refine rp_iconst (1 : Int32) dX11_mays_105 (by decide) ?_
                  refine rp_callVi [.int (1 : Int32)] (SX4_passHour (hn := hn) (rf a0 6) (1 : Int32) (tX11_6 h0)) cvX4_passHour (mw (i := 901) (by decide +kernel)) (by omega) (tX11_6 h0) (by decide) rfl rfl rfl (Nat.le_of_ble_eq_true rfl) dX11_mays_106 (fun x8 => ?_)
                  refine rp_pop dX11_mays_109 rfl ?_
                  refine rp_aload_n 0 dX11_mays_110 rfl ?_
                  refine rp_getR fi_X11_51 h0 rfl dX11_mays_111 ?_
                  refine rp_callVz [] (SX4_thunders (hn := hn) (rf a0 6) (tX11_6 h0)) cvX4_thunders (mw (i := 1174) (by decide +kernel)) (by omega) (tX11_6 h0) (by decide) rfl rfl rfl (Nat.le_of_ble_eq_true rfl) dX11_mays_114 (fun x9 => ?_)
                  refine rp_as ?_
                  refine rp_join 123 (fun (v11 : Int32) => [(0, .ref (K.2.1 + a0)), (2, .int p2), (3, .int p3), (4, .int v11), (5, .int v7), (6, .int s2.2.2)]) (fun v11 => []) (fun v11 => ?_) (fun hJ123 => ?_)
                  · refine rp_iinc (fun y12 => [(6, .int y12), (0, .ref (K.2.1 + a0)), (2, .int p2), (3, .int p3), (4, .int v11), (5, .int v7)]) 5 dX11_mays_123 rfl (by rfl) (by decide) (fun y12 => rfl) (fun y12 => ?_)
                    refine rp_goto 62 dX11_mays_126 (by decide) ?_
                    exact rp_sub [1, 2, 3, 4, 5, 0] rfl (ih62 (v11, v7, y12))
                  refine rp_if_ne 123 dX11_mays_117 (by decide) ?_ ?_
                  · exact rp_sub [0, 1, 2, 3, 4, 5] rfl (rp_pu (hJ123 s2.1))
                  · refine rp_iinc (fun y10 => [(4, .int y10), (0, .ref (K.2.1 + a0)), (2, .int p2), (3, .int p3), (5, .int v7), (6, .int s2.2.2)]) 3 dX11_mays_120 rfl (by rfl) (by decide) (fun y10 => rfl) (fun y10 => ?_)
                    exact rp_sub [1, 2, 3, 0, 4, 5] rfl (rp_pu (hJ123 y10))
                refine rp_if_le 101 dX11_mays_75 (by decide) ?_ ?_
                · exact rp_sub [0, 1, 2, 3, 4, 5] rfl (rp_pu (hJ101 s2.2.1))
                · refine rp_aload_n 0 dX11_mays_78 rfl ?_
                  refine rp_getR fi_X11_19 h0 rfl dX11_mays_79 ?_
                  refine rp_getI fi_X11_189 (tX11_1 h0) rfl dX11_mays_82 (fun x4 => ?_)
                  refine rp_if_le 101 dX11_mays_85 (by decide) ?_ ?_
                  · exact rp_sub [0, 1, 2, 3, 4, 5] rfl (rp_pu (hJ101 s2.2.1))
                  · refine rp_aload_n 0 dX11_mays_88 rfl ?_
                    refine rp_getR fi_X11_51 h0 rfl dX11_mays_89 ?_
                    refine rp_callVz [] (SX4_drawOne (hn := hn) (rf a0 6) (tX11_6 h0)) cvX4_drawOne (mw (i := 1157) (by decide +kernel)) (by omega) (tX11_6 h0) (by decide) rfl rfl rfl (Nat.le_of_ble_eq_true rfl) dX11_mays_92 (fun x5 => ?_)
                    refine rp_if_eq 101 dX11_mays_95 (by decide) ?_ ?_
                    · exact rp_sub [0, 1, 2, 3, 4, 5] rfl (rp_pu (hJ101 s2.2.1))
                    · refine rp_iinc (fun y6 => [(5, .int y6), (0, .ref (K.2.1 + a0)), (2, .int p2), (3, .int p3), (4, .int s2.1), (6, .int s2.2.2)]) 4 dX11_mays_98 rfl (by rfl) (by decide) (fun y6 => rfl) (fun y6 => ?_)
                      exact rp_sub [1, 2, 3, 4, 0, 5] rfl (rp_pu (hJ101 y6))
            · refine rp_iconst (-1 : Int32) dX11_mays_31 (by decide) ?_
              exact rp_pu (rp_iret rfl dX11_mays_32)

theorem dX12_thrown_0 : decode cX12_thrown 0 = .ok (.aload_n 0, 1) := by decide +kernel
theorem dX12_thrown_1 : decode cX12_thrown 1 = .ok (.getfield 1, 3) := by decide +kernel
theorem dX12_thrown_4 : decode cX12_thrown 4 = .ok (.ireturn, 1) := by decide +kernel
noncomputable def FX12_thrown (a0 : Nat) : PP Int32 := bd (gI a0 0) (fun x1 => pu x1)
set_option maxHeartbeats 4000000 in
set_option maxRecDepth 100000 in
theorem SX12_thrown {l : Launch} {K : KK} {n : Nat} {hn : 270 ≤ n} (a0 : Nat) (h0 : ob a0 11) : CT l K n 0 mX12_thrown [.ref (K.2.1 + a0)] enI (FX12_thrown a0) := by
  refine CT.of2 (lv2 := [(0, .ref (K.2.1 + a0))]) (by decide) rfl hn (Nat.le_of_ble_eq_true rfl) rfl (rp_id ?_)
  unfold FX12_thrown
  refine rp_aload_n 0 dX12_thrown_0 rfl ?_
  refine rp_getI fi_X12_1 h0 rfl dX12_thrown_1 (fun x1 => ?_)
  exact rp_pu (rp_iret rfl dX12_thrown_4)

theorem dX12_lay_0 : decode cX12_lay 0 = .ok (.bipush 56, 2) := by decide +kernel
theorem dX12_lay_2 : decode cX12_lay 2 = .ok (.istore_n 3, 1) := by decide +kernel
theorem dX12_lay_3 : decode cX12_lay 3 = .ok (.iload_n 3, 1) := by decide +kernel
theorem dX12_lay_4 : decode cX12_lay 4 = .ok (.ifCond .lt 71, 3) := by decide +kernel
theorem dX12_lay_7 : decode cX12_lay 7 = .ok (.lload_n 1, 1) := by decide +kernel
theorem dX12_lay_8 : decode cX12_lay 8 = .ok (.iload_n 3, 1) := by decide +kernel
theorem dX12_lay_9 : decode cX12_lay 9 = .ok (.lshr, 1) := by decide +kernel
theorem dX12_lay_10 : decode cX12_lay 10 = .ok (.l2i, 1) := by decide +kernel
theorem dX12_lay_11 : decode cX12_lay 11 = .ok (.sipush 255, 3) := by decide +kernel
theorem dX12_lay_14 : decode cX12_lay 14 = .ok (.iand, 1) := by decide +kernel
theorem dX12_lay_15 : decode cX12_lay 15 = .ok (.istore 4, 2) := by decide +kernel
theorem dX12_lay_17 : decode cX12_lay 17 = .ok (.iload 4, 2) := by decide +kernel
theorem dX12_lay_19 : decode cX12_lay 19 = .ok (.bipush 10, 2) := by decide +kernel
theorem dX12_lay_21 : decode cX12_lay 21 = .ok (.if_icmp .eq 17, 3) := by decide +kernel
theorem dX12_lay_24 : decode cX12_lay 24 = .ok (.iload 4, 2) := by decide +kernel
theorem dX12_lay_26 : decode cX12_lay 26 = .ok (.bipush 32, 2) := by decide +kernel
theorem dX12_lay_28 : decode cX12_lay 28 = .ok (.if_icmp .lt 41, 3) := by decide +kernel
theorem dX12_lay_31 : decode cX12_lay 31 = .ok (.iload 4, 2) := by decide +kernel
theorem dX12_lay_33 : decode cX12_lay 33 = .ok (.bipush 126, 2) := by decide +kernel
theorem dX12_lay_35 : decode cX12_lay 35 = .ok (.if_icmp .gt 34, 3) := by decide +kernel
theorem dX12_lay_38 : decode cX12_lay 38 = .ok (.aload_n 0, 1) := by decide +kernel
theorem dX12_lay_39 : decode cX12_lay 39 = .ok (.getfield 11, 3) := by decide +kernel
theorem dX12_lay_42 : decode cX12_lay 42 = .ok (.sipush 1000, 3) := by decide +kernel
theorem dX12_lay_45 : decode cX12_lay 45 = .ok (.if_icmp .ge 24, 3) := by decide +kernel
theorem dX12_lay_48 : decode cX12_lay 48 = .ok (.aload_n 0, 1) := by decide +kernel
theorem dX12_lay_49 : decode cX12_lay 49 = .ok (.getfield 14, 3) := by decide +kernel
theorem dX12_lay_52 : decode cX12_lay 52 = .ok (.aload_n 0, 1) := by decide +kernel
theorem dX12_lay_53 : decode cX12_lay 53 = .ok (.getfield 11, 3) := by decide +kernel
theorem dX12_lay_56 : decode cX12_lay 56 = .ok (.iload 4, 2) := by decide +kernel
theorem dX12_lay_58 : decode cX12_lay 58 = .ok (.iastore, 1) := by decide +kernel
theorem dX12_lay_59 : decode cX12_lay 59 = .ok (.aload_n 0, 1) := by decide +kernel
theorem dX12_lay_60 : decode cX12_lay 60 = .ok (.dup, 1) := by decide +kernel
theorem dX12_lay_61 : decode cX12_lay 61 = .ok (.getfield 11, 3) := by decide +kernel
theorem dX12_lay_64 : decode cX12_lay 64 = .ok (.iconst 1, 1) := by decide +kernel
theorem dX12_lay_65 : decode cX12_lay 65 = .ok (.iadd, 1) := by decide +kernel
theorem dX12_lay_66 : decode cX12_lay 66 = .ok (.putfield 11, 3) := by decide +kernel
theorem dX12_lay_69 : decode cX12_lay 69 = .ok (.iinc 3 (-8), 3) := by decide +kernel
theorem dX12_lay_72 : decode cX12_lay 72 = .ok (.goto (-69), 3) := by decide +kernel
theorem dX12_lay_75 : decode cX12_lay 75 = .ok (.return_, 1) := by decide +kernel
noncomputable def FX12_lay (a0 : Nat) (p1 : Int64) : PP Unit := bd (it (fun (s1 : Int32) => (if s1 < 0 then pu (Sum.inr ()) else lt (((p1 >>> (s1.toInt64 &&& 63)).toInt32) &&& (255 : Int32)) (fun y2 => bd (jn (fun (v4 : Unit) => bd (gI a0 2) (fun x5 => if (1000 : Int32) ≤ x5 then pu () else bd (gI a0 2) (fun x6 => bd (uI (rf a0 1) 1000 x6 y2) (fun (_ : Unit) => bd (gI a0 2) (fun x7 => bd (sI a0 2 (x7 + (1 : Int32))) (fun (_ : Unit) => pu ())))))) (fun j3 => if y2 = (10 : Int32) then j3 () else if y2 < (32 : Int32) then pu () else if (126 : Int32) < y2 then pu () else j3 ()) : PP (Unit)) (fun (v8 : Unit) => lt (s1 + (-8 : Int32)) (fun y9 => pu (Sum.inl y9)))) : PP ((Int32) ⊕ (Unit)))) FU (56 : Int32)) (fun (v10 : Unit) => pu ())
set_option maxHeartbeats 4000000 in
set_option maxRecDepth 100000 in
theorem SX12_lay {l : Launch} {K : KK} {n : Nat} {hn : 270 ≤ n} (a0 : Nat) (p1 : Int64) (h0 : ob a0 11) : CT l K n 0 mX12_lay [.ref (K.2.1 + a0), .long p1] enU (FX12_lay a0 p1) := by
  refine CT.of2 (lv2 := [(0, .ref (K.2.1 + a0)), (1, .long p1)]) (by decide) rfl hn (Nat.le_of_ble_eq_true rfl) rfl (rp_id ?_)
  unfold FX12_lay
  refine rp_bipush (56 : Int32) dX12_lay_0 (by decide) ?_
  refine rp_istore_n [(3, .int (56 : Int32)), (0, .ref (K.2.1 + a0)), (1, .long p1)] dX12_lay_2 (by decide) rfl ?_
  refine rp_as ?_
  refine rp_join 75 (fun v10 => []) (fun _ => []) (fun v10 => ?_) (fun hX3_0 => ?_)
  · exact rp_pu (rp_vret rfl dX12_lay_75)
  refine rp_sub [1, 2, 0] rfl (rp_it (fun (s1 : Int32) => [(0, .ref (K.2.1 + a0)), (1, .long p1), (3, .int s1)]) (fun N3 ih3 s1 => ?_) FU (56 : Int32))
  refine rp_iload_n 2 dX12_lay_3 rfl ?_
  refine rp_if_lt 75 dX12_lay_4 (by decide) ?_ ?_
  · exact rp_sub [] rfl (rp_puR (hX3_0 ()))
  · refine rp_lload_n 1 dX12_lay_7 rfl ?_
    refine rp_iload_n 2 dX12_lay_8 rfl ?_
    refine rp_lshr dX12_lay_9 ?_
    refine rp_l2i dX12_lay_10 ?_
    refine rp_sipush (255 : Int32) dX12_lay_11 (by decide) ?_
    refine rp_iand dX12_lay_14 ?_
    refine rp_lti (fun y2 => ?_)
    refine rp_istore [(4, .int y2), (0, .ref (K.2.1 + a0)), (1, .long p1), (3, .int s1)] dX12_lay_15 (by decide) rfl ?_
    refine rp_iload 0 dX12_lay_17 rfl ?_
    refine rp_bipush (10 : Int32) dX12_lay_19 (by decide) ?_
    refine rp_as ?_
    refine rp_join 69 (fun (v8 : Unit) => [(0, .ref (K.2.1 + a0)), (1, .long p1), (3, .int s1)]) (fun v8 => []) (fun v8 => ?_) (fun hJ69 => ?_)
    · refine rp_iinc (fun y9 => [(3, .int y9), (0, .ref (K.2.1 + a0)), (1, .long p1)]) 2 dX12_lay_69 rfl (by rfl) (by decide) (fun y9 => rfl) (fun y9 => ?_)
      refine rp_goto 3 dX12_lay_72 (by decide) ?_
      exact rp_sub [1, 2, 0] rfl (ih3 y9)
    refine rp_jn2 38 (fun (v4 : Unit) => [(0, .ref (K.2.1 + a0)), (1, .long p1), (3, .int s1), (4, .int y2)]) (fun v4 => []) (fun v4 => ?_) (fun hK38 => ?_)
    · refine rp_aload_n 0 dX12_lay_38 rfl ?_
      refine rp_getI fi_X12_11 h0 rfl dX12_lay_39 (fun x5 => ?_)
      refine rp_sipush (1000 : Int32) dX12_lay_42 (by decide) ?_
      refine rp_icmp_ge 69 dX12_lay_45 (by decide) ?_ ?_
      · exact rp_sub [0, 1, 2] rfl (rp_pu (hJ69 ()))
      · refine rp_aload_n 0 dX12_lay_48 rfl ?_
        refine rp_getR fi_X12_14 h0 rfl dX12_lay_49 ?_
        refine rp_aload_n 0 dX12_lay_52 rfl ?_
        refine rp_getI fi_X12_11 h0 rfl dX12_lay_53 (fun x6 => ?_)
        refine rp_iload 3 dX12_lay_56 rfl ?_
        refine rp_iast (tX12_1 h0) dX12_lay_58 ?_
        refine rp_aload_n 0 dX12_lay_59 rfl ?_
        refine rp_dup dX12_lay_60 rfl ?_
        refine rp_getI fi_X12_11 h0 rfl dX12_lay_61 (fun x7 => ?_)
        refine rp_iconst (1 : Int32) dX12_lay_64 (by decide) ?_
        refine rp_iadd dX12_lay_65 ?_
        refine rp_putI fi_X12_11 fp_X12_2 h0 rfl dX12_lay_66 ?_
        exact rp_sub [0, 1, 2] rfl (rp_pu (hJ69 ()))
    refine rp_icmp_eq 38 dX12_lay_21 (by decide) ?_ ?_
    · exact rp_sub [1, 2, 3, 0] rfl (hK38 ())
    · refine rp_iload 0 dX12_lay_24 rfl ?_
      refine rp_bipush (32 : Int32) dX12_lay_26 (by decide) ?_
      refine rp_icmp_lt 69 dX12_lay_28 (by decide) ?_ ?_
      · exact rp_sub [1, 2, 3] rfl (rp_pu (hJ69 ()))
      · refine rp_iload 0 dX12_lay_31 rfl ?_
        refine rp_bipush (126 : Int32) dX12_lay_33 (by decide) ?_
        refine rp_icmp_gt 69 dX12_lay_35 (by decide) ?_ ?_
        · exact rp_sub [1, 2, 3] rfl (rp_pu (hJ69 ()))
        · exact rp_sub [1, 2, 3, 0] rfl (hK38 ())
