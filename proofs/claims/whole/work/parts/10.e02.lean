theorem dX4_countKinds_0 : decode cX4_countKinds 0 = .ok (.iconst 0, 1) := by decide +kernel
theorem dX4_countKinds_1 : decode cX4_countKinds 1 = .ok (.istore_n 3, 1) := by decide +kernel
theorem dX4_countKinds_2 : decode cX4_countKinds 2 = .ok (.iload_n 3, 1) := by decide +kernel
theorem dX4_countKinds_3 : decode cX4_countKinds 3 = .ok (.iconst 4, 1) := by decide +kernel
theorem dX4_countKinds_4 : decode cX4_countKinds 4 = .ok (.if_icmp .ge 16, 3) := by decide +kernel
theorem dX4_countKinds_7 : decode cX4_countKinds 7 = .ok (.aload_n 0, 1) := by decide +kernel
theorem dX4_countKinds_8 : decode cX4_countKinds 8 = .ok (.getfield 21, 3) := by decide +kernel
theorem dX4_countKinds_11 : decode cX4_countKinds 11 = .ok (.iload_n 3, 1) := by decide +kernel
theorem dX4_countKinds_12 : decode cX4_countKinds 12 = .ok (.iconst 0, 1) := by decide +kernel
theorem dX4_countKinds_13 : decode cX4_countKinds 13 = .ok (.iastore, 1) := by decide +kernel
theorem dX4_countKinds_14 : decode cX4_countKinds 14 = .ok (.iinc 3 1, 3) := by decide +kernel
theorem dX4_countKinds_17 : decode cX4_countKinds 17 = .ok (.goto (-15), 3) := by decide +kernel
theorem dX4_countKinds_20 : decode cX4_countKinds 20 = .ok (.aload_n 0, 1) := by decide +kernel
theorem dX4_countKinds_21 : decode cX4_countKinds 21 = .ok (.getfield 24, 3) := by decide +kernel
theorem dX4_countKinds_24 : decode cX4_countKinds 24 = .ok (.getfield 96, 3) := by decide +kernel
theorem dX4_countKinds_27 : decode cX4_countKinds 27 = .ok (.iload_n 1, 1) := by decide +kernel
theorem dX4_countKinds_28 : decode cX4_countKinds 28 = .ok (.iaload, 1) := by decide +kernel
theorem dX4_countKinds_29 : decode cX4_countKinds 29 = .ok (.istore_n 3, 1) := by decide +kernel
theorem dX4_countKinds_30 : decode cX4_countKinds 30 = .ok (.iconst 0, 1) := by decide +kernel
theorem dX4_countKinds_31 : decode cX4_countKinds 31 = .ok (.istore 4, 2) := by decide +kernel
theorem dX4_countKinds_33 : decode cX4_countKinds 33 = .ok (.iload 4, 2) := by decide +kernel
theorem dX4_countKinds_35 : decode cX4_countKinds 35 = .ok (.aload_n 0, 1) := by decide +kernel
theorem dX4_countKinds_36 : decode cX4_countKinds 36 = .ok (.getfield 24, 3) := by decide +kernel
theorem dX4_countKinds_39 : decode cX4_countKinds 39 = .ok (.getfield 61, 3) := by decide +kernel
theorem dX4_countKinds_42 : decode cX4_countKinds 42 = .ok (.if_icmp .ge 85, 3) := by decide +kernel
theorem dX4_countKinds_45 : decode cX4_countKinds 45 = .ok (.aload_n 0, 1) := by decide +kernel
theorem dX4_countKinds_46 : decode cX4_countKinds 46 = .ok (.getfield 15, 3) := by decide +kernel
theorem dX4_countKinds_49 : decode cX4_countKinds 49 = .ok (.iload 4, 2) := by decide +kernel
theorem dX4_countKinds_51 : decode cX4_countKinds 51 = .ok (.iaload, 1) := by decide +kernel
theorem dX4_countKinds_52 : decode cX4_countKinds 52 = .ok (.iconst (-1), 1) := by decide +kernel
theorem dX4_countKinds_53 : decode cX4_countKinds 53 = .ok (.if_icmp .eq 22, 3) := by decide +kernel
theorem dX4_countKinds_56 : decode cX4_countKinds 56 = .ok (.iload_n 3, 1) := by decide +kernel
theorem dX4_countKinds_57 : decode cX4_countKinds 57 = .ok (.aload_n 0, 1) := by decide +kernel
theorem dX4_countKinds_58 : decode cX4_countKinds 58 = .ok (.getfield 15, 3) := by decide +kernel
theorem dX4_countKinds_61 : decode cX4_countKinds 61 = .ok (.iload 4, 2) := by decide +kernel
theorem dX4_countKinds_63 : decode cX4_countKinds 63 = .ok (.iaload, 1) := by decide +kernel
theorem dX4_countKinds_64 : decode cX4_countKinds 64 = .ok (.ishr, 1) := by decide +kernel
theorem dX4_countKinds_65 : decode cX4_countKinds 65 = .ok (.iconst 1, 1) := by decide +kernel
theorem dX4_countKinds_66 : decode cX4_countKinds 66 = .ok (.iand, 1) := by decide +kernel
theorem dX4_countKinds_67 : decode cX4_countKinds 67 = .ok (.iconst 1, 1) := by decide +kernel
theorem dX4_countKinds_68 : decode cX4_countKinds 68 = .ok (.if_icmp .ne 7, 3) := by decide +kernel
theorem dX4_countKinds_71 : decode cX4_countKinds 71 = .ok (.iconst 1, 1) := by decide +kernel
theorem dX4_countKinds_72 : decode cX4_countKinds 72 = .ok (.goto 4, 3) := by decide +kernel
theorem dX4_countKinds_75 : decode cX4_countKinds 75 = .ok (.iconst 0, 1) := by decide +kernel
theorem dX4_countKinds_76 : decode cX4_countKinds 76 = .ok (.istore 5, 2) := by decide +kernel
theorem dX4_countKinds_78 : decode cX4_countKinds 78 = .ok (.iload 5, 2) := by decide +kernel
theorem dX4_countKinds_80 : decode cX4_countKinds 80 = .ok (.ifCond .eq 41, 3) := by decide +kernel
theorem dX4_countKinds_83 : decode cX4_countKinds 83 = .ok (.aload_n 0, 1) := by decide +kernel
theorem dX4_countKinds_84 : decode cX4_countKinds 84 = .ok (.getfield 9, 3) := by decide +kernel
theorem dX4_countKinds_87 : decode cX4_countKinds 87 = .ok (.iload 4, 2) := by decide +kernel
theorem dX4_countKinds_89 : decode cX4_countKinds 89 = .ok (.iaload, 1) := by decide +kernel
theorem dX4_countKinds_90 : decode cX4_countKinds 90 = .ok (.ifCond .le 31, 3) := by decide +kernel
theorem dX4_countKinds_93 : decode cX4_countKinds 93 = .ok (.iload_n 2, 1) := by decide +kernel
theorem dX4_countKinds_94 : decode cX4_countKinds 94 = .ok (.iload 4, 2) := by decide +kernel
theorem dX4_countKinds_96 : decode cX4_countKinds 96 = .ok (.ishr, 1) := by decide +kernel
theorem dX4_countKinds_97 : decode cX4_countKinds 97 = .ok (.iconst 1, 1) := by decide +kernel
theorem dX4_countKinds_98 : decode cX4_countKinds 98 = .ok (.iand, 1) := by decide +kernel
theorem dX4_countKinds_99 : decode cX4_countKinds 99 = .ok (.ifCond .ne 22, 3) := by decide +kernel
theorem dX4_countKinds_102 : decode cX4_countKinds 102 = .ok (.aload_n 0, 1) := by decide +kernel
theorem dX4_countKinds_103 : decode cX4_countKinds 103 = .ok (.getfield 21, 3) := by decide +kernel
theorem dX4_countKinds_106 : decode cX4_countKinds 106 = .ok (.aload_n 0, 1) := by decide +kernel
theorem dX4_countKinds_107 : decode cX4_countKinds 107 = .ok (.getfield 24, 3) := by decide +kernel
theorem dX4_countKinds_110 : decode cX4_countKinds 110 = .ok (.getfield 80, 3) := by decide +kernel
theorem dX4_countKinds_113 : decode cX4_countKinds 113 = .ok (.iload 4, 2) := by decide +kernel
theorem dX4_countKinds_115 : decode cX4_countKinds 115 = .ok (.iaload, 1) := by decide +kernel
theorem dX4_countKinds_116 : decode cX4_countKinds 116 = .ok (.dup2, 1) := by decide +kernel
theorem dX4_countKinds_117 : decode cX4_countKinds 117 = .ok (.iaload, 1) := by decide +kernel
theorem dX4_countKinds_118 : decode cX4_countKinds 118 = .ok (.iconst 1, 1) := by decide +kernel
theorem dX4_countKinds_119 : decode cX4_countKinds 119 = .ok (.iadd, 1) := by decide +kernel
theorem dX4_countKinds_120 : decode cX4_countKinds 120 = .ok (.iastore, 1) := by decide +kernel
theorem dX4_countKinds_121 : decode cX4_countKinds 121 = .ok (.iinc 4 1, 3) := by decide +kernel
theorem dX4_countKinds_124 : decode cX4_countKinds 124 = .ok (.goto (-91), 3) := by decide +kernel
theorem dX4_countKinds_127 : decode cX4_countKinds 127 = .ok (.return_, 1) := by decide +kernel
abbrev mX4_countKinds : MI := (RX4, yX4_countKinds, cX4_countKinds, 6, none)
theorem cvX4_countKinds : CV mX4_countKinds 2 := ⟨⟨mw (i := 815) (by decide +kernel), mw (i := 7) (by decide +kernel), ⟨by decide +kernel, by decide +kernel, by decide +kernel⟩, by decide⟩, mw (i := 813) (by decide +kernel), mw (i := 814) (by decide +kernel)⟩
def FX4_countKinds (a0 : Nat) (p1 : Int32) (p2 : Int32) : PP Unit := bd (it (fun (s1 : Int32) => (if (4 : Int32) ≤ s1 then pu (Sum.inr ()) else bd (uI (rf a0 4) 4 s1 (0 : Int32)) (fun (_ : Unit) => lt (s1 + (1 : Int32)) (fun y2 => pu (Sum.inl y2))) : PP ((Int32) ⊕ (Unit)))) FU (0 : Int32)) (fun (v3 : Unit) => bd (aI (rf (rf a0 0) 5) 4 p1) (fun x4 => bd (it (fun (s5 : Int32) => (bd (gI (rf a0 0) 11) (fun x6 => if x6 ≤ s5 then pu (Sum.inr ()) else bd (aI (rf a0 2) 6 s5) (fun x7 => bd (if x7 = (-1 : Int32) then pu (0 : Int32) else bd (aI (rf a0 2) 6 s5) (fun x8 => if ((x4 >>> (x8 &&& 31)) &&& (1 : Int32)) = (1 : Int32) then pu (1 : Int32) else pu (0 : Int32)) : PP (Int32)) (fun (v9 : Int32) => bd (if v9 = 0 then pu () else bd (aI (rf a0 1) 6 s5) (fun x10 => if x10 ≤ 0 then pu () else if ((p2 >>> (s5 &&& 31)) &&& (1 : Int32)) = 0 then bd (aI (rf (rf a0 0) 6) 6 s5) (fun x11 => bd (aI (rf a0 4) 4 x11) (fun x12 => bd (uI (rf a0 4) 4 x11 (x12 + (1 : Int32))) (fun (_ : Unit) => pu ()))) else pu ()) : PP (Unit)) (fun (v13 : Unit) => lt (s5 + (1 : Int32)) (fun y14 => pu (Sum.inl y14)))))) : PP ((Int32) ⊕ (Unit)))) FU (0 : Int32)) (fun (v15 : Unit) => pu ())))
set_option maxHeartbeats 4000000 in
set_option maxRecDepth 100000 in
theorem SX4_countKinds {l : Launch} {K : KK} {n : Nat} {hn : 270 ≤ n} (a0 : Nat) (p1 : Int32) (p2 : Int32) (h0 : ob a0 4) : CT l K n 0 mX4_countKinds [.ref (K.2.1 + a0), .int p1, .int p2] enU (FX4_countKinds a0 p1 p2) := by
  refine CT.of2 (lv2 := [(0, .ref (K.2.1 + a0)), (1, .int p1), (2, .int p2)]) (by decide) rfl hn (Nat.le_of_ble_eq_true rfl) rfl (rp_id ?_)
  unfold FX4_countKinds
  refine rp_iconst (0 : Int32) dX4_countKinds_0 (by decide) ?_
  refine rp_istore_n [(3, .int (0 : Int32)), (0, .ref (K.2.1 + a0)), (1, .int p1), (2, .int p2)] dX4_countKinds_1 (by decide) rfl ?_
  refine rp_as ?_
  refine rp_join 20 (fun v3 => [(0, .ref (K.2.1 + a0)), (1, .int p1), (2, .int p2)]) (fun _ => []) (fun v3 => ?_) (fun hX2_0 => ?_)
  · refine rp_aload_n 0 dX4_countKinds_20 rfl ?_
    refine rp_getR fi_X4_24 h0 rfl dX4_countKinds_21 ?_
    refine rp_getR fi_X4_96 (tX4_0 h0) rfl dX4_countKinds_24 ?_
    refine rp_iload_n 1 dX4_countKinds_27 rfl ?_
    refine rp_iald (tX7_5 (tX4_0 h0)) dX4_countKinds_28 (fun x4 => ?_)
    refine rp_istore_n [(3, .int x4), (0, .ref (K.2.1 + a0)), (1, .int p1), (2, .int p2)] dX4_countKinds_29 (by decide) rfl ?_
    refine rp_iconst (0 : Int32) dX4_countKinds_30 (by decide) ?_
    refine rp_istore [(4, .int (0 : Int32)), (3, .int x4), (0, .ref (K.2.1 + a0)), (1, .int p1), (2, .int p2)] dX4_countKinds_31 (by decide) rfl ?_
    refine rp_as ?_
    refine rp_join 127 (fun v15 => []) (fun _ => []) (fun v15 => ?_) (fun hX33_0 => ?_)
    · exact rp_pu (rp_vret rfl dX4_countKinds_127)
    refine rp_sub [2, 4, 1, 0] rfl (rp_it (fun (s5 : Int32) => [(0, .ref (K.2.1 + a0)), (2, .int p2), (3, .int x4), (4, .int s5)]) (fun N33 ih33 s5 => ?_) FU (0 : Int32))
    refine rp_iload 3 dX4_countKinds_33 rfl ?_
    refine rp_aload_n 0 dX4_countKinds_35 rfl ?_
    refine rp_getR fi_X4_24 h0 rfl dX4_countKinds_36 ?_
    refine rp_getI fi_X4_61 (tX4_0 h0) rfl dX4_countKinds_39 (fun x6 => ?_)
    refine rp_icmp_ge 127 dX4_countKinds_42 (by decide) ?_ ?_
    · exact rp_sub [] rfl (rp_pu (hX33_0 ()))
    · refine rp_aload_n 0 dX4_countKinds_45 rfl ?_
      refine rp_getR fi_X4_15 h0 rfl dX4_countKinds_46 ?_
      refine rp_iload 3 dX4_countKinds_49 rfl ?_
      refine rp_iald (tX4_2 h0) dX4_countKinds_51 (fun x7 => ?_)
      refine rp_iconst (-1 : Int32) dX4_countKinds_52 (by decide) ?_
      refine rp_as ?_
      refine rp_join 76 (fun (v9 : Int32) => [(0, .ref (K.2.1 + a0)), (2, .int p2), (3, .int x4), (4, .int s5)]) (fun v9 => [.int v9]) (fun v9 => ?_) (fun hJ76 => ?_)
      · refine rp_istore [(5, .int v9), (0, .ref (K.2.1 + a0)), (2, .int p2), (3, .int x4), (4, .int s5)] dX4_countKinds_76 (by decide) rfl ?_
        refine rp_iload 0 dX4_countKinds_78 rfl ?_
        refine rp_as ?_
        refine rp_join 121 (fun (v13 : Unit) => [(0, .ref (K.2.1 + a0)), (2, .int p2), (3, .int x4), (4, .int s5)]) (fun v13 => []) (fun v13 => ?_) (fun hJ121 => ?_)
        · refine rp_iinc (fun y14 => [(4, .int y14), (0, .ref (K.2.1 + a0)), (2, .int p2), (3, .int x4)]) 3 dX4_countKinds_121 rfl (by rfl) (by decide) (fun y14 => rfl) (fun y14 => ?_)
          refine rp_goto 33 dX4_countKinds_124 (by decide) ?_
          exact rp_sub [1, 2, 3, 0] rfl (ih33 y14)
        refine rp_if_eq 121 dX4_countKinds_80 (by decide) ?_ ?_
        · exact rp_sub [1, 2, 3, 4] rfl (rp_pu (hJ121 ()))
        · refine rp_aload_n 1 dX4_countKinds_83 rfl ?_
          refine rp_getR fi_X4_9 h0 rfl dX4_countKinds_84 ?_
          refine rp_iload 4 dX4_countKinds_87 rfl ?_
          refine rp_iald (tX4_1 h0) dX4_countKinds_89 (fun x10 => ?_)
          refine rp_if_le 121 dX4_countKinds_90 (by decide) ?_ ?_
          · exact rp_sub [1, 2, 3, 4] rfl (rp_pu (hJ121 ()))
          · refine rp_iload_n 2 dX4_countKinds_93 rfl ?_
            refine rp_iload 4 dX4_countKinds_94 rfl ?_
            refine rp_ishr dX4_countKinds_96 ?_
            refine rp_iconst (1 : Int32) dX4_countKinds_97 (by decide) ?_
            refine rp_iand dX4_countKinds_98 ?_
            refine rp_if_ne 121 dX4_countKinds_99 (by decide) ?_ ?_
            · exact rp_sub [1, 2, 3, 4] rfl (rp_pu (hJ121 ()))
            · refine rp_aload_n 1 dX4_countKinds_102 rfl ?_
              refine rp_getR fi_X4_21 h0 rfl dX4_countKinds_103 ?_
              refine rp_aload_n 1 dX4_countKinds_106 rfl ?_
              refine rp_getR fi_X4_24 h0 rfl dX4_countKinds_107 ?_
              refine rp_getR fi_X4_80 (tX4_0 h0) rfl dX4_countKinds_110 ?_
              refine rp_iload 4 dX4_countKinds_113 rfl ?_
              refine rp_iald (tX7_6 (tX4_0 h0)) dX4_countKinds_115 (fun x11 => ?_)
              refine rp_dup2 dX4_countKinds_116 rfl rfl ?_
              refine rp_iald (tX4_4 h0) dX4_countKinds_117 (fun x12 => ?_)
              refine rp_iconst (1 : Int32) dX4_countKinds_118 (by decide) ?_
              refine rp_iadd dX4_countKinds_119 ?_
              refine rp_iast (tX4_4 h0) dX4_countKinds_120 ?_
              exact rp_sub [1, 2, 3, 4] rfl (rp_pu (hJ121 ()))
      refine rp_icmp_eq 75 dX4_countKinds_53 (by decide) ?_ ?_
      · refine rp_iconst (0 : Int32) dX4_countKinds_75 (by decide) ?_
        exact rp_sub [0, 1, 2, 3] rfl (rp_pu (hJ76 (0 : Int32)))
      · refine rp_iload_n 2 dX4_countKinds_56 rfl ?_
        refine rp_aload_n 0 dX4_countKinds_57 rfl ?_
        refine rp_getR fi_X4_15 h0 rfl dX4_countKinds_58 ?_
        refine rp_iload 3 dX4_countKinds_61 rfl ?_
        refine rp_iald (tX4_2 h0) dX4_countKinds_63 (fun x8 => ?_)
        refine rp_ishr dX4_countKinds_64 ?_
        refine rp_iconst (1 : Int32) dX4_countKinds_65 (by decide) ?_
        refine rp_iand dX4_countKinds_66 ?_
        refine rp_iconst (1 : Int32) dX4_countKinds_67 (by decide) ?_
        refine rp_icmp_ne 75 dX4_countKinds_68 (by decide) ?_ ?_
        · refine rp_iconst (0 : Int32) dX4_countKinds_75 (by decide) ?_
          exact rp_sub [0, 1, 2, 3] rfl (rp_pu (hJ76 (0 : Int32)))
        · refine rp_iconst (1 : Int32) dX4_countKinds_71 (by decide) ?_
          refine rp_goto 76 dX4_countKinds_72 (by decide) ?_
          exact rp_sub [0, 1, 2, 3] rfl (rp_pu (hJ76 (1 : Int32)))
  refine rp_sub [1, 2, 3, 0] rfl (rp_it (fun (s1 : Int32) => [(0, .ref (K.2.1 + a0)), (1, .int p1), (2, .int p2), (3, .int s1)]) (fun N2 ih2 s1 => ?_) FU (0 : Int32))
  refine rp_iload_n 3 dX4_countKinds_2 rfl ?_
  refine rp_iconst (4 : Int32) dX4_countKinds_3 (by decide) ?_
  refine rp_icmp_ge 20 dX4_countKinds_4 (by decide) ?_ ?_
  · exact rp_sub [0, 1, 2] rfl (rp_pu (hX2_0 ()))
  · refine rp_aload_n 0 dX4_countKinds_7 rfl ?_
    refine rp_getR fi_X4_21 h0 rfl dX4_countKinds_8 ?_
    refine rp_iload_n 3 dX4_countKinds_11 rfl ?_
    refine rp_iconst (0 : Int32) dX4_countKinds_12 (by decide) ?_
    refine rp_iast (tX4_4 h0) dX4_countKinds_13 ?_
    refine rp_iinc (fun y2 => [(3, .int y2), (0, .ref (K.2.1 + a0)), (1, .int p1), (2, .int p2)]) 3 dX4_countKinds_14 rfl (by rfl) (by decide) (fun y2 => rfl) (fun y2 => ?_)
    refine rp_goto 2 dX4_countKinds_17 (by decide) ?_
    exact rp_sub [1, 2, 3, 0] rfl (ih2 y2)

theorem dX4_weather_0 : decode cX4_weather 0 = .ok (.aload_n 0, 1) := by decide +kernel
theorem dX4_weather_1 : decode cX4_weather 1 = .ok (.iload_n 1, 1) := by decide +kernel
theorem dX4_weather_2 : decode cX4_weather 2 = .ok (.iload_n 2, 1) := by decide +kernel
theorem dX4_weather_3 : decode cX4_weather 3 = .ok (.invokevirtual 89, 3) := by decide +kernel
theorem dX4_weather_6 : decode cX4_weather 6 = .ok (.iconst (-1), 1) := by decide +kernel
theorem dX4_weather_7 : decode cX4_weather 7 = .ok (.istore_n 3, 1) := by decide +kernel
theorem dX4_weather_8 : decode cX4_weather 8 = .ok (.iconst 0, 1) := by decide +kernel
theorem dX4_weather_9 : decode cX4_weather 9 = .ok (.istore 4, 2) := by decide +kernel
theorem dX4_weather_11 : decode cX4_weather 11 = .ok (.iconst 0, 1) := by decide +kernel
theorem dX4_weather_12 : decode cX4_weather 12 = .ok (.istore 5, 2) := by decide +kernel
theorem dX4_weather_14 : decode cX4_weather 14 = .ok (.iload 5, 2) := by decide +kernel
theorem dX4_weather_16 : decode cX4_weather 16 = .ok (.iconst 4, 1) := by decide +kernel
theorem dX4_weather_17 : decode cX4_weather 17 = .ok (.if_icmp .ge 40, 3) := by decide +kernel
theorem dX4_weather_20 : decode cX4_weather 20 = .ok (.aload_n 0, 1) := by decide +kernel
theorem dX4_weather_21 : decode cX4_weather 21 = .ok (.getfield 21, 3) := by decide +kernel
theorem dX4_weather_24 : decode cX4_weather 24 = .ok (.getstatic 93, 3) := by decide +kernel
theorem dX4_weather_27 : decode cX4_weather 27 = .ok (.iload 5, 2) := by decide +kernel
theorem dX4_weather_29 : decode cX4_weather 29 = .ok (.iaload, 1) := by decide +kernel
theorem dX4_weather_30 : decode cX4_weather 30 = .ok (.iaload, 1) := by decide +kernel
theorem dX4_weather_31 : decode cX4_weather 31 = .ok (.iload 4, 2) := by decide +kernel
theorem dX4_weather_33 : decode cX4_weather 33 = .ok (.if_icmp .le 18, 3) := by decide +kernel
theorem dX4_weather_36 : decode cX4_weather 36 = .ok (.getstatic 93, 3) := by decide +kernel
theorem dX4_weather_39 : decode cX4_weather 39 = .ok (.iload 5, 2) := by decide +kernel
theorem dX4_weather_41 : decode cX4_weather 41 = .ok (.iaload, 1) := by decide +kernel
theorem dX4_weather_42 : decode cX4_weather 42 = .ok (.istore_n 3, 1) := by decide +kernel
theorem dX4_weather_43 : decode cX4_weather 43 = .ok (.aload_n 0, 1) := by decide +kernel
theorem dX4_weather_44 : decode cX4_weather 44 = .ok (.getfield 21, 3) := by decide +kernel
theorem dX4_weather_47 : decode cX4_weather 47 = .ok (.iload_n 3, 1) := by decide +kernel
theorem dX4_weather_48 : decode cX4_weather 48 = .ok (.iaload, 1) := by decide +kernel
theorem dX4_weather_49 : decode cX4_weather 49 = .ok (.istore 4, 2) := by decide +kernel
theorem dX4_weather_51 : decode cX4_weather 51 = .ok (.iinc 5 1, 3) := by decide +kernel
theorem dX4_weather_54 : decode cX4_weather 54 = .ok (.goto (-40), 3) := by decide +kernel
theorem dX4_weather_57 : decode cX4_weather 57 = .ok (.iload_n 3, 1) := by decide +kernel
theorem dX4_weather_58 : decode cX4_weather 58 = .ok (.ireturn, 1) := by decide +kernel
abbrev mX4_weather : MI := (RX4, yX4_weather, cX4_weather, 6, some .int)
theorem cvX4_weather : CV mX4_weather 2 := ⟨⟨mw (i := 811) (by decide +kernel), mw (i := 7) (by decide +kernel), ⟨by decide +kernel, by decide +kernel, by decide +kernel⟩, by decide⟩, mw (i := 809) (by decide +kernel), mw (i := 810) (by decide +kernel)⟩
def FX4_weather (a0 : Nat) (p1 : Int32) (p2 : Int32) : PP Int32 := bd (FX4_countKinds a0 p1 p2) (fun (_ : Unit) => bd (it (fun (s2 : Int32 × Int32 × Int32) => (if (4 : Int32) ≤ s2.2.2 then pu (Sum.inr s2.1) else bd (aR s2.2.2) (fun x3 => bd (aI (rf a0 4) 4 x3) (fun x4 => bd (if x4 ≤ s2.2.1 then pu (s2.1, s2.2.1) else bd (aR s2.2.2) (fun x5 => bd (aI (rf a0 4) 4 x5) (fun x6 => pu (x5, x6))) : PP (Int32 × Int32)) (fun (v7 : Int32 × Int32) => lt (s2.2.2 + (1 : Int32)) (fun y8 => pu (Sum.inl (v7.1, v7.2, y8)))))) : PP ((Int32 × Int32 × Int32) ⊕ (Int32)))) FU ((-1 : Int32), (0 : Int32), (0 : Int32))) (fun (v9 : Int32) => pu v9))
set_option maxHeartbeats 4000000 in
set_option maxRecDepth 100000 in
theorem SX4_weather {l : Launch} {K : KK} {n : Nat} {hn : 270 ≤ n} (a0 : Nat) (p1 : Int32) (p2 : Int32) (h0 : ob a0 4) : CT l K n 1 mX4_weather [.ref (K.2.1 + a0), .int p1, .int p2] enI (FX4_weather a0 p1 p2) := by
  refine CT.of2 (lv2 := [(0, .ref (K.2.1 + a0)), (1, .int p1), (2, .int p2)]) (by decide) rfl hn (Nat.le_of_ble_eq_true rfl) rfl (rp_id ?_)
  unfold FX4_weather
  refine rp_aload_n 0 dX4_weather_0 rfl ?_
  refine rp_iload_n 1 dX4_weather_1 rfl ?_
  refine rp_iload_n 2 dX4_weather_2 rfl ?_
  refine rp_callVv [.int p1, .int p2] (SX4_countKinds (hn := hn) a0 p1 p2 h0) cvX4_countKinds (mw (i := 812) (by decide +kernel)) (by omega) h0 (by decide) rfl rfl rfl (Nat.le_of_ble_eq_true rfl) dX4_weather_3 (fun x1 => ?_)
  refine rp_iconst (-1 : Int32) dX4_weather_6 (by decide) ?_
  refine rp_istore_n [(3, .int (-1 : Int32)), (0, .ref (K.2.1 + a0)), (1, .int p1), (2, .int p2)] dX4_weather_7 (by decide) rfl ?_
  refine rp_iconst (0 : Int32) dX4_weather_8 (by decide) ?_
  refine rp_istore [(4, .int (0 : Int32)), (3, .int (-1 : Int32)), (0, .ref (K.2.1 + a0)), (1, .int p1), (2, .int p2)] dX4_weather_9 (by decide) rfl ?_
  refine rp_iconst (0 : Int32) dX4_weather_11 (by decide) ?_
  refine rp_istore [(5, .int (0 : Int32)), (4, .int (0 : Int32)), (3, .int (-1 : Int32)), (0, .ref (K.2.1 + a0)), (1, .int p1), (2, .int p2)] dX4_weather_12 (by decide) rfl ?_
  refine rp_as ?_
  refine rp_join 57 (fun v9 => [(3, .int v9)]) (fun _ => []) (fun v9 => ?_) (fun hX14_0 => ?_)
  · refine rp_iload_n 0 dX4_weather_57 rfl ?_
    exact rp_pu (rp_iret rfl dX4_weather_58)
  refine rp_sub [3, 2, 1, 0] rfl (rp_it (fun (s2 : Int32 × Int32 × Int32) => [(0, .ref (K.2.1 + a0)), (3, .int s2.1), (4, .int s2.2.1), (5, .int s2.2.2)]) (fun N14 ih14 s2 => ?_) FU ((-1 : Int32), (0 : Int32), (0 : Int32)))
  refine rp_iload 3 dX4_weather_14 rfl ?_
  refine rp_iconst (4 : Int32) dX4_weather_16 (by decide) ?_
  refine rp_icmp_ge 57 dX4_weather_17 (by decide) ?_ ?_
  · exact rp_sub [1] rfl (rp_pu (hX14_0 s2.1))
  · refine rp_aload_n 0 dX4_weather_20 rfl ?_
    refine rp_getR fi_X4_21 h0 rfl dX4_weather_21 ?_
    refine rp_getRanks (host := "LaundrySky") (mw (i := 816) (by decide +kernel)) dX4_weather_24 ?_
    refine rp_iload 3 dX4_weather_27 rfl ?_
    refine rp_aldRanks dX4_weather_29 (fun x3 => ?_)
    refine rp_iald (tX4_4 h0) dX4_weather_30 (fun x4 => ?_)
    refine rp_iload 2 dX4_weather_31 rfl ?_
    refine rp_as ?_
    refine rp_join 51 (fun (v7 : Int32 × Int32) => [(0, .ref (K.2.1 + a0)), (3, .int v7.1), (4, .int v7.2), (5, .int s2.2.2)]) (fun v7 => []) (fun v7 => ?_) (fun hJ51 => ?_)
    · refine rp_iinc (fun y8 => [(5, .int y8), (0, .ref (K.2.1 + a0)), (3, .int v7.1), (4, .int v7.2)]) 3 dX4_weather_51 rfl (by rfl) (by decide) (fun y8 => rfl) (fun y8 => ?_)
      refine rp_goto 14 dX4_weather_54 (by decide) ?_
      exact rp_sub [1, 2, 3, 0] rfl (ih14 (v7.1, v7.2, y8))
    refine rp_icmp_le 51 dX4_weather_33 (by decide) ?_ ?_
    · exact rp_sub [0, 1, 2, 3] rfl (rp_pu (hJ51 (s2.1, s2.2.1)))
    · refine rp_getRanks (host := "LaundrySky") (mw (i := 816) (by decide +kernel)) dX4_weather_36 ?_
      refine rp_iload 3 dX4_weather_39 rfl ?_
      refine rp_aldRanks dX4_weather_41 (fun x5 => ?_)
      refine rp_istore_n [(3, .int x5), (0, .ref (K.2.1 + a0)), (4, .int s2.2.1), (5, .int s2.2.2)] dX4_weather_42 (by decide) rfl ?_
      refine rp_aload_n 1 dX4_weather_43 rfl ?_
      refine rp_getR fi_X4_21 h0 rfl dX4_weather_44 ?_
      refine rp_iload_n 0 dX4_weather_47 rfl ?_
      refine rp_iald (tX4_4 h0) dX4_weather_48 (fun x6 => ?_)
      refine rp_istore [(4, .int x6), (3, .int x5), (0, .ref (K.2.1 + a0)), (5, .int s2.2.2)] dX4_weather_49 (by decide) rfl ?_
      exact rp_sub [2, 1, 0, 3] rfl (rp_pu (hJ51 (x5, x6)))

theorem dX4_thunders_0 : decode cX4_thunders 0 = .ok (.iconst 0, 1) := by decide +kernel
theorem dX4_thunders_1 : decode cX4_thunders 1 = .ok (.istore_n 1, 1) := by decide +kernel
theorem dX4_thunders_2 : decode cX4_thunders 2 = .ok (.iload_n 1, 1) := by decide +kernel
theorem dX4_thunders_3 : decode cX4_thunders 3 = .ok (.aload_n 0, 1) := by decide +kernel
theorem dX4_thunders_4 : decode cX4_thunders 4 = .ok (.getfield 24, 3) := by decide +kernel
theorem dX4_thunders_7 : decode cX4_thunders 7 = .ok (.getfield 102, 3) := by decide +kernel
theorem dX4_thunders_10 : decode cX4_thunders 10 = .ok (.if_icmp .ge 21, 3) := by decide +kernel
theorem dX4_thunders_13 : decode cX4_thunders 13 = .ok (.aload_n 0, 1) := by decide +kernel
theorem dX4_thunders_14 : decode cX4_thunders 14 = .ok (.iload_n 1, 1) := by decide +kernel
theorem dX4_thunders_15 : decode cX4_thunders 15 = .ok (.iconst 0, 1) := by decide +kernel
theorem dX4_thunders_16 : decode cX4_thunders 16 = .ok (.invokevirtual 99, 3) := by decide +kernel
theorem dX4_thunders_19 : decode cX4_thunders 19 = .ok (.iconst 2, 1) := by decide +kernel
theorem dX4_thunders_20 : decode cX4_thunders 20 = .ok (.if_icmp .ne 5, 3) := by decide +kernel
theorem dX4_thunders_23 : decode cX4_thunders 23 = .ok (.iconst 1, 1) := by decide +kernel
theorem dX4_thunders_24 : decode cX4_thunders 24 = .ok (.ireturn, 1) := by decide +kernel
theorem dX4_thunders_25 : decode cX4_thunders 25 = .ok (.iinc 1 1, 3) := by decide +kernel
theorem dX4_thunders_28 : decode cX4_thunders 28 = .ok (.goto (-26), 3) := by decide +kernel
theorem dX4_thunders_31 : decode cX4_thunders 31 = .ok (.iconst 0, 1) := by decide +kernel
theorem dX4_thunders_32 : decode cX4_thunders 32 = .ok (.ireturn, 1) := by decide +kernel
abbrev mX4_thunders : MI := (RX4, yX4_thunders, cX4_thunders, 2, some .boolean)
theorem cvX4_thunders : CV mX4_thunders 0 := ⟨⟨mw (i := 977) (by decide +kernel), mw (i := 7) (by decide +kernel), ⟨by decide +kernel, by decide +kernel, by decide +kernel⟩, by decide⟩, mw (i := 975) (by decide +kernel), mw (i := 976) (by decide +kernel)⟩
def FX4_thunders (a0 : Nat) : PP Bool := bd (it (fun (s1 : Int32) => (bd (gI (rf a0 0) 10) (fun x2 => if x2 ≤ s1 then pu (Sum.inr (Sum.inl ())) else bd (FX4_weather a0 s1 (0 : Int32)) (fun x3 => if x3 = (2 : Int32) then pu (Sum.inr (Sum.inr (()))) else lt (s1 + (1 : Int32)) (fun y4 => pu (Sum.inl y4)))) : PP ((Int32) ⊕ ((Unit) ⊕ (Unit))))) FU (0 : Int32)) (Sum.elim (fun (v5 : Unit) => zb (0 : Int32)) (fun (v6 : Unit) => zb (1 : Int32)))
set_option maxHeartbeats 4000000 in
set_option maxRecDepth 100000 in
theorem SX4_thunders {l : Launch} {K : KK} {n : Nat} {hn : 270 ≤ n} (a0 : Nat) (h0 : ob a0 4) : CT l K n 2 mX4_thunders [.ref (K.2.1 + a0)] enZ (FX4_thunders a0) := by
  refine CT.of2 (lv2 := [(0, .ref (K.2.1 + a0))]) (by decide) rfl hn (Nat.le_of_ble_eq_true rfl) rfl (rp_id ?_)
  unfold FX4_thunders
  refine rp_iconst (0 : Int32) dX4_thunders_0 (by decide) ?_
  refine rp_istore_n [(1, .int (0 : Int32)), (0, .ref (K.2.1 + a0))] dX4_thunders_1 (by decide) rfl ?_
  refine rp_as ?_
  refine rp_join2 31 (fun v5 => []) (fun _ => []) 23 (fun v6 => []) (fun _ => []) (fun v5 => ?_) (fun v6 => ?_) (fun hX2_0 hX2_1 => ?_)
  · refine rp_iconst (0 : Int32) dX4_thunders_31 (by decide) ?_
    exact rp_zretb rfl dX4_thunders_32
  · refine rp_iconst (1 : Int32) dX4_thunders_23 (by decide) ?_
    exact rp_zretb rfl dX4_thunders_24
  refine rp_sub [1, 0] rfl (rp_it (fun (s1 : Int32) => [(0, .ref (K.2.1 + a0)), (1, .int s1)]) (fun N2 ih2 s1 => ?_) FU (0 : Int32))
  refine rp_iload_n 1 dX4_thunders_2 rfl ?_
  refine rp_aload_n 0 dX4_thunders_3 rfl ?_
  refine rp_getR fi_X4_24 h0 rfl dX4_thunders_4 ?_
  refine rp_getI fi_X4_102 (tX4_0 h0) rfl dX4_thunders_7 (fun x2 => ?_)
  refine rp_icmp_ge 31 dX4_thunders_10 (by decide) ?_ ?_
  · exact rp_sub [] rfl (rp_pu (hX2_0 ()))
  · refine rp_aload_n 0 dX4_thunders_13 rfl ?_
    refine rp_iload_n 1 dX4_thunders_14 rfl ?_
    refine rp_iconst (0 : Int32) dX4_thunders_15 (by decide) ?_
    refine rp_callVi [.int s1, .int (0 : Int32)] (SX4_weather (hn := hn) a0 s1 (0 : Int32) h0) cvX4_weather (mw (i := 822) (by decide +kernel)) (by omega) h0 (by decide) rfl rfl rfl (Nat.le_of_ble_eq_true rfl) dX4_thunders_16 (fun x3 => ?_)
    refine rp_iconst (2 : Int32) dX4_thunders_19 (by decide) ?_
    refine rp_icmp_ne 25 dX4_thunders_20 (by decide) ?_ ?_
    · refine rp_iinc (fun y4 => [(1, .int y4), (0, .ref (K.2.1 + a0))]) 1 dX4_thunders_25 rfl (by rfl) (by decide) (fun y4 => rfl) (fun y4 => ?_)
      refine rp_goto 2 dX4_thunders_28 (by decide) ?_
      exact rp_sub [1, 0] rfl (ih2 y4)
    · exact rp_sub [] rfl (rp_pu (hX2_1 ()))

theorem dX3_judge_0 : decode cX3_judge 0 = .ok (.aload_n 0, 1) := by decide +kernel
theorem dX3_judge_1 : decode cX3_judge 1 = .ok (.iconst (-1), 1) := by decide +kernel
theorem dX3_judge_2 : decode cX3_judge 2 = .ok (.putfield 104, 3) := by decide +kernel
theorem dX3_judge_5 : decode cX3_judge 5 = .ok (.aload_n 0, 1) := by decide +kernel
theorem dX3_judge_6 : decode cX3_judge 6 = .ok (.iconst (-1), 1) := by decide +kernel
theorem dX3_judge_7 : decode cX3_judge 7 = .ok (.putfield 107, 3) := by decide +kernel
theorem dX3_judge_10 : decode cX3_judge 10 = .ok (.aload_n 1, 1) := by decide +kernel
theorem dX3_judge_11 : decode cX3_judge 11 = .ok (.invokevirtual 110, 3) := by decide +kernel
theorem dX3_judge_14 : decode cX3_judge 14 = .ok (.iconst 0, 1) := by decide +kernel
theorem dX3_judge_15 : decode cX3_judge 15 = .ok (.istore_n 2, 1) := by decide +kernel
theorem dX3_judge_16 : decode cX3_judge 16 = .ok (.iload_n 2, 1) := by decide +kernel
theorem dX3_judge_17 : decode cX3_judge 17 = .ok (.aload_n 0, 1) := by decide +kernel
theorem dX3_judge_18 : decode cX3_judge 18 = .ok (.getfield 30, 3) := by decide +kernel
theorem dX3_judge_21 : decode cX3_judge 21 = .ok (.if_icmp .ge 57, 3) := by decide +kernel
theorem dX3_judge_24 : decode cX3_judge 24 = .ok (.iload_n 2, 1) := by decide +kernel
theorem dX3_judge_25 : decode cX3_judge 25 = .ok (.bipush 40, 2) := by decide +kernel
theorem dX3_judge_27 : decode cX3_judge 27 = .ok (.if_icmp .ge 51, 3) := by decide +kernel
theorem dX3_judge_30 : decode cX3_judge 30 = .ok (.aload_n 0, 1) := by decide +kernel
theorem dX3_judge_31 : decode cX3_judge 31 = .ok (.aload_n 1, 1) := by decide +kernel
theorem dX3_judge_32 : decode cX3_judge 32 = .ok (.iload_n 2, 1) := by decide +kernel
theorem dX3_judge_33 : decode cX3_judge 33 = .ok (.invokevirtual 115, 3) := by decide +kernel
theorem dX3_judge_36 : decode cX3_judge 36 = .ok (.ifCond .ne 16, 3) := by decide +kernel
theorem dX3_judge_39 : decode cX3_judge 39 = .ok (.aload_n 0, 1) := by decide +kernel
theorem dX3_judge_40 : decode cX3_judge 40 = .ok (.getfield 104, 3) := by decide +kernel
theorem dX3_judge_43 : decode cX3_judge 43 = .ok (.iconst (-1), 1) := by decide +kernel
theorem dX3_judge_44 : decode cX3_judge 44 = .ok (.if_icmp .ne 8, 3) := by decide +kernel
theorem dX3_judge_47 : decode cX3_judge 47 = .ok (.aload_n 0, 1) := by decide +kernel
theorem dX3_judge_48 : decode cX3_judge 48 = .ok (.iload_n 2, 1) := by decide +kernel
theorem dX3_judge_49 : decode cX3_judge 49 = .ok (.putfield 104, 3) := by decide +kernel
theorem dX3_judge_52 : decode cX3_judge 52 = .ok (.aload_n 0, 1) := by decide +kernel
theorem dX3_judge_53 : decode cX3_judge 53 = .ok (.getfield 107, 3) := by decide +kernel
theorem dX3_judge_56 : decode cX3_judge 56 = .ok (.iconst (-1), 1) := by decide +kernel
theorem dX3_judge_57 : decode cX3_judge 57 = .ok (.if_icmp .ne 15, 3) := by decide +kernel
theorem dX3_judge_60 : decode cX3_judge 60 = .ok (.aload_n 1, 1) := by decide +kernel
theorem dX3_judge_61 : decode cX3_judge 61 = .ok (.invokevirtual 119, 3) := by decide +kernel
theorem dX3_judge_64 : decode cX3_judge 64 = .ok (.ifCond .eq 8, 3) := by decide +kernel
theorem dX3_judge_67 : decode cX3_judge 67 = .ok (.aload_n 0, 1) := by decide +kernel
theorem dX3_judge_68 : decode cX3_judge 68 = .ok (.iload_n 2, 1) := by decide +kernel
theorem dX3_judge_69 : decode cX3_judge 69 = .ok (.putfield 107, 3) := by decide +kernel
theorem dX3_judge_72 : decode cX3_judge 72 = .ok (.iinc 2 1, 3) := by decide +kernel
theorem dX3_judge_75 : decode cX3_judge 75 = .ok (.goto (-59), 3) := by decide +kernel
theorem dX3_judge_78 : decode cX3_judge 78 = .ok (.return_, 1) := by decide +kernel
abbrev mX3_judge : MI := (RX3, yX3_judge, cX3_judge, 3, none)
theorem cvX3_judge : CV mX3_judge 1 := ⟨⟨mw (i := 961) (by decide +kernel), mw (i := 6) (by decide +kernel), ⟨by decide +kernel, by decide +kernel, by decide +kernel⟩, by decide⟩, mw (i := 959) (by decide +kernel), mw (i := 960) (by decide +kernel)⟩
def FX3_judge (a0 : Nat) (p1 : Nat) : PP Unit := bd (sI a0 5 (-1 : Int32)) (fun (_ : Unit) => bd (sI a0 6 (-1 : Int32)) (fun (_ : Unit) => bd (FX4_begin p1) (fun (_ : Unit) => bd (it (fun (s2 : Int32) => (bd (gI a0 4) (fun x3 => if x3 ≤ s2 then pu (Sum.inr ()) else if (40 : Int32) ≤ s2 then pu (Sum.inr ()) else bd (FX3_isDone a0 p1 s2) (fun x4 => bd (if ((b2i x4)) = 0 then bd (gI a0 5) (fun x5 => if x5 = (-1 : Int32) then bd (sI a0 5 s2) (fun (_ : Unit) => pu ()) else pu ()) else pu () : PP (Unit)) (fun (v6 : Unit) => bd (gI a0 6) (fun x7 => bd (if x7 = (-1 : Int32) then bd (FX4_thunders p1) (fun x8 => if ((b2i x8)) = 0 then pu () else bd (sI a0 6 s2) (fun (_ : Unit) => pu ())) else pu () : PP (Unit)) (fun (v9 : Unit) => lt (s2 + (1 : Int32)) (fun y10 => pu (Sum.inl y10))))))) : PP ((Int32) ⊕ (Unit)))) FU (0 : Int32)) (fun (v11 : Unit) => pu ()))))
set_option maxHeartbeats 4000000 in
set_option maxRecDepth 100000 in
theorem SX3_judge {l : Launch} {K : KK} {n : Nat} {hn : 270 ≤ n} (a0 : Nat) (p1 : Nat) (h0 : ob a0 3) (h_p1 : ob p1 4) : CT l K n 4 mX3_judge [.ref (K.2.1 + a0), .ref (K.2.1 + p1)] enU (FX3_judge a0 p1) := by
  refine CT.of2 (lv2 := [(0, .ref (K.2.1 + a0)), (1, .ref (K.2.1 + p1))]) (by decide) rfl hn (Nat.le_of_ble_eq_true rfl) rfl (rp_id ?_)
  unfold FX3_judge
  refine rp_aload_n 0 dX3_judge_0 rfl ?_
  refine rp_iconst (-1 : Int32) dX3_judge_1 (by decide) ?_
  refine rp_putI fi_X3_104 fp_X3_5 h0 rfl dX3_judge_2 ?_
  refine rp_aload_n 0 dX3_judge_5 rfl ?_
  refine rp_iconst (-1 : Int32) dX3_judge_6 (by decide) ?_
  refine rp_putI fi_X3_107 fp_X3_6 h0 rfl dX3_judge_7 ?_
  refine rp_aload_n 1 dX3_judge_10 rfl ?_
  refine rp_callVv [] (SX4_begin (hn := hn) p1 h_p1) cvX4_begin (mw (i := 962) (by decide +kernel)) (by omega) h_p1 (by decide) rfl rfl rfl (Nat.le_of_ble_eq_true rfl) dX3_judge_11 (fun x1 => ?_)
  refine rp_iconst (0 : Int32) dX3_judge_14 (by decide) ?_
  refine rp_istore_n [(2, .int (0 : Int32)), (0, .ref (K.2.1 + a0)), (1, .ref (K.2.1 + p1))] dX3_judge_15 (by decide) rfl ?_
  refine rp_as ?_
  refine rp_join 78 (fun v11 => []) (fun _ => []) (fun v11 => ?_) (fun hX16_0 => ?_)
  · exact rp_pu (rp_vret rfl dX3_judge_78)
  refine rp_sub [1, 2, 0] rfl (rp_it (fun (s2 : Int32) => [(0, .ref (K.2.1 + a0)), (1, .ref (K.2.1 + p1)), (2, .int s2)]) (fun N16 ih16 s2 => ?_) FU (0 : Int32))
  refine rp_iload_n 2 dX3_judge_16 rfl ?_
  refine rp_aload_n 0 dX3_judge_17 rfl ?_
  refine rp_getI fi_X3_30 h0 rfl dX3_judge_18 (fun x3 => ?_)
  refine rp_icmp_ge 78 dX3_judge_21 (by decide) ?_ ?_
  · exact rp_sub [] rfl (rp_pu (hX16_0 ()))
  · refine rp_iload_n 2 dX3_judge_24 rfl ?_
    refine rp_bipush (40 : Int32) dX3_judge_25 (by decide) ?_
    refine rp_icmp_ge 78 dX3_judge_27 (by decide) ?_ ?_
    · exact rp_sub [] rfl (rp_pu (hX16_0 ()))
    · refine rp_aload_n 0 dX3_judge_30 rfl ?_
      refine rp_aload_n 1 dX3_judge_31 rfl ?_
      refine rp_iload_n 2 dX3_judge_32 rfl ?_
      refine rp_callVz [.ref (K.2.1 + p1), .int s2] (SX3_isDone (hn := hn) a0 p1 s2 h0 h_p1) cvX3_isDone (mw (i := 963) (by decide +kernel)) (by omega) h0 (by decide) rfl rfl rfl (Nat.le_of_ble_eq_true rfl) dX3_judge_33 (fun x4 => ?_)
      refine rp_as ?_
      refine rp_join 52 (fun (v6 : Unit) => [(0, .ref (K.2.1 + a0)), (1, .ref (K.2.1 + p1)), (2, .int s2)]) (fun v6 => []) (fun v6 => ?_) (fun hJ52 => ?_)
      · refine rp_aload_n 0 dX3_judge_52 rfl ?_
        refine rp_getI fi_X3_107 h0 rfl dX3_judge_53 (fun x7 => ?_)
        refine rp_iconst (-1 : Int32) dX3_judge_56 (by decide) ?_
        refine rp_as ?_
        refine rp_join 72 (fun (v9 : Unit) => [(0, .ref (K.2.1 + a0)), (1, .ref (K.2.1 + p1)), (2, .int s2)]) (fun v9 => []) (fun v9 => ?_) (fun hJ72 => ?_)
        · refine rp_iinc (fun y10 => [(2, .int y10), (0, .ref (K.2.1 + a0)), (1, .ref (K.2.1 + p1))]) 2 dX3_judge_72 rfl (by rfl) (by decide) (fun y10 => rfl) (fun y10 => ?_)
          refine rp_goto 16 dX3_judge_75 (by decide) ?_
          exact rp_sub [1, 2, 0] rfl (ih16 y10)
        refine rp_icmp_ne 72 dX3_judge_57 (by decide) ?_ ?_
        · exact rp_sub [0, 1, 2] rfl (rp_pu (hJ72 ()))
        · refine rp_aload_n 1 dX3_judge_60 rfl ?_
          refine rp_callVz [] (SX4_thunders (hn := hn) p1 h_p1) cvX4_thunders (mw (i := 974) (by decide +kernel)) (by omega) h_p1 (by decide) rfl rfl rfl (Nat.le_of_ble_eq_true rfl) dX3_judge_61 (fun x8 => ?_)
          refine rp_if_eq 72 dX3_judge_64 (by decide) ?_ ?_
          · exact rp_sub [0, 1, 2] rfl (rp_pu (hJ72 ()))
          · refine rp_aload_n 0 dX3_judge_67 rfl ?_
            refine rp_iload_n 2 dX3_judge_68 rfl ?_
            refine rp_putI fi_X3_107 fp_X3_6 h0 rfl dX3_judge_69 ?_
            exact rp_sub [0, 1, 2] rfl (rp_pu (hJ72 ()))
      refine rp_if_ne 52 dX3_judge_36 (by decide) ?_ ?_
      · exact rp_sub [0, 1, 2] rfl (rp_pu (hJ52 ()))
      · refine rp_aload_n 0 dX3_judge_39 rfl ?_
        refine rp_getI fi_X3_104 h0 rfl dX3_judge_40 (fun x5 => ?_)
        refine rp_iconst (-1 : Int32) dX3_judge_43 (by decide) ?_
        refine rp_icmp_ne 52 dX3_judge_44 (by decide) ?_ ?_
        · exact rp_sub [0, 1, 2] rfl (rp_pu (hJ52 ()))
        · refine rp_aload_n 0 dX3_judge_47 rfl ?_
          refine rp_iload_n 2 dX3_judge_48 rfl ?_
          refine rp_putI fi_X3_104 fp_X3_5 h0 rfl dX3_judge_49 ?_
          exact rp_sub [0, 1, 2] rfl (rp_pu (hJ52 ()))

theorem dX4_freeInAll_0 : decode cX4_freeInAll 0 = .ok (.iconst 0, 1) := by decide +kernel
theorem dX4_freeInAll_1 : decode cX4_freeInAll 1 = .ok (.istore_n 1, 1) := by decide +kernel
theorem dX4_freeInAll_2 : decode cX4_freeInAll 2 = .ok (.iconst 0, 1) := by decide +kernel
theorem dX4_freeInAll_3 : decode cX4_freeInAll 3 = .ok (.istore_n 2, 1) := by decide +kernel
theorem dX4_freeInAll_4 : decode cX4_freeInAll 4 = .ok (.iload_n 2, 1) := by decide +kernel
theorem dX4_freeInAll_5 : decode cX4_freeInAll 5 = .ok (.aload_n 0, 1) := by decide +kernel
theorem dX4_freeInAll_6 : decode cX4_freeInAll 6 = .ok (.getfield 24, 3) := by decide +kernel
theorem dX4_freeInAll_9 : decode cX4_freeInAll 9 = .ok (.getfield 86, 3) := by decide +kernel
theorem dX4_freeInAll_12 : decode cX4_freeInAll 12 = .ok (.if_icmp .ge 17, 3) := by decide +kernel
theorem dX4_freeInAll_15 : decode cX4_freeInAll 15 = .ok (.iload_n 1, 1) := by decide +kernel
theorem dX4_freeInAll_16 : decode cX4_freeInAll 16 = .ok (.aload_n 0, 1) := by decide +kernel
theorem dX4_freeInAll_17 : decode cX4_freeInAll 17 = .ok (.iload_n 2, 1) := by decide +kernel
theorem dX4_freeInAll_18 : decode cX4_freeInAll 18 = .ok (.invokevirtual 53, 3) := by decide +kernel
theorem dX4_freeInAll_21 : decode cX4_freeInAll 21 = .ok (.iadd, 1) := by decide +kernel
theorem dX4_freeInAll_22 : decode cX4_freeInAll 22 = .ok (.istore_n 1, 1) := by decide +kernel
theorem dX4_freeInAll_23 : decode cX4_freeInAll 23 = .ok (.iinc 2 1, 3) := by decide +kernel
theorem dX4_freeInAll_26 : decode cX4_freeInAll 26 = .ok (.goto (-22), 3) := by decide +kernel
theorem dX4_freeInAll_29 : decode cX4_freeInAll 29 = .ok (.iload_n 1, 1) := by decide +kernel
theorem dX4_freeInAll_30 : decode cX4_freeInAll 30 = .ok (.ireturn, 1) := by decide +kernel
abbrev mX4_freeInAll : MI := (RX4, yX4_freeInAll, cX4_freeInAll, 3, some .int)
theorem cvX4_freeInAll : CV mX4_freeInAll 0 := ⟨⟨mw (i := 842) (by decide +kernel), mw (i := 7) (by decide +kernel), ⟨by decide +kernel, by decide +kernel, by decide +kernel⟩, by decide⟩, mw (i := 840) (by decide +kernel), mw (i := 841) (by decide +kernel)⟩
def FX4_freeInAll (a0 : Nat) : PP Int32 := bd (it (fun (s1 : Int32 × Int32) => (bd (gI (rf a0 0) 9) (fun x2 => if x2 ≤ s1.2 then pu (Sum.inr s1.1) else bd (FX4_freeOn a0 s1.2) (fun x3 => lt (s1.1 + x3) (fun y4 => lt (s1.2 + (1 : Int32)) (fun y5 => pu (Sum.inl (y4, y5)))))) : PP ((Int32 × Int32) ⊕ (Int32)))) FU ((0 : Int32), (0 : Int32))) (fun (v6 : Int32) => pu v6)
set_option maxHeartbeats 4000000 in
set_option maxRecDepth 100000 in
theorem SX4_freeInAll {l : Launch} {K : KK} {n : Nat} {hn : 270 ≤ n} (a0 : Nat) (h0 : ob a0 4) : CT l K n 1 mX4_freeInAll [.ref (K.2.1 + a0)] enI (FX4_freeInAll a0) := by
  refine CT.of2 (lv2 := [(0, .ref (K.2.1 + a0))]) (by decide) rfl hn (Nat.le_of_ble_eq_true rfl) rfl (rp_id ?_)
  unfold FX4_freeInAll
  refine rp_iconst (0 : Int32) dX4_freeInAll_0 (by decide) ?_
  refine rp_istore_n [(1, .int (0 : Int32)), (0, .ref (K.2.1 + a0))] dX4_freeInAll_1 (by decide) rfl ?_
  refine rp_iconst (0 : Int32) dX4_freeInAll_2 (by decide) ?_
  refine rp_istore_n [(2, .int (0 : Int32)), (1, .int (0 : Int32)), (0, .ref (K.2.1 + a0))] dX4_freeInAll_3 (by decide) rfl ?_
  refine rp_as ?_
  refine rp_join 29 (fun v6 => [(1, .int v6)]) (fun _ => []) (fun v6 => ?_) (fun hX4_0 => ?_)
  · refine rp_iload_n 0 dX4_freeInAll_29 rfl ?_
    exact rp_pu (rp_iret rfl dX4_freeInAll_30)
  refine rp_sub [2, 1, 0] rfl (rp_it (fun (s1 : Int32 × Int32) => [(0, .ref (K.2.1 + a0)), (1, .int s1.1), (2, .int s1.2)]) (fun N4 ih4 s1 => ?_) FU ((0 : Int32), (0 : Int32)))
  refine rp_iload_n 2 dX4_freeInAll_4 rfl ?_
  refine rp_aload_n 0 dX4_freeInAll_5 rfl ?_
  refine rp_getR fi_X4_24 h0 rfl dX4_freeInAll_6 ?_
  refine rp_getI fi_X4_86 (tX4_0 h0) rfl dX4_freeInAll_9 (fun x2 => ?_)
  refine rp_icmp_ge 29 dX4_freeInAll_12 (by decide) ?_ ?_
  · exact rp_sub [1] rfl (rp_pu (hX4_0 s1.1))
  · refine rp_iload_n 1 dX4_freeInAll_15 rfl ?_
    refine rp_aload_n 0 dX4_freeInAll_16 rfl ?_
    refine rp_iload_n 2 dX4_freeInAll_17 rfl ?_
    refine rp_callVi [.int s1.2] (SX4_freeOn (hn := hn) a0 s1.2 h0) cvX4_freeOn (mw (i := 843) (by decide +kernel)) (by omega) h0 (by decide) rfl rfl rfl (Nat.le_of_ble_eq_true rfl) dX4_freeInAll_18 (fun x3 => ?_)
    refine rp_iadd dX4_freeInAll_21 ?_
    refine rp_lti (fun y4 => ?_)
    refine rp_istore_n [(1, .int y4), (0, .ref (K.2.1 + a0)), (2, .int s1.2)] dX4_freeInAll_22 (by decide) rfl ?_
    refine rp_iinc (fun y5 => [(2, .int y5), (1, .int y4), (0, .ref (K.2.1 + a0))]) 2 dX4_freeInAll_23 rfl (by rfl) (by decide) (fun y5 => rfl) (fun y5 => ?_)
    refine rp_goto 4 dX4_freeInAll_26 (by decide) ?_
    exact rp_sub [2, 1, 0] rfl (ih4 (y4, y5))

theorem dX4_clothsOn_0 : decode cX4_clothsOn 0 = .ok (.iconst 0, 1) := by decide +kernel
theorem dX4_clothsOn_1 : decode cX4_clothsOn 1 = .ok (.istore_n 2, 1) := by decide +kernel
theorem dX4_clothsOn_2 : decode cX4_clothsOn 2 = .ok (.iconst 0, 1) := by decide +kernel
theorem dX4_clothsOn_3 : decode cX4_clothsOn 3 = .ok (.istore_n 3, 1) := by decide +kernel
theorem dX4_clothsOn_4 : decode cX4_clothsOn 4 = .ok (.iload_n 3, 1) := by decide +kernel
theorem dX4_clothsOn_5 : decode cX4_clothsOn 5 = .ok (.aload_n 0, 1) := by decide +kernel
theorem dX4_clothsOn_6 : decode cX4_clothsOn 6 = .ok (.getfield 24, 3) := by decide +kernel
theorem dX4_clothsOn_9 : decode cX4_clothsOn 9 = .ok (.getfield 61, 3) := by decide +kernel
theorem dX4_clothsOn_12 : decode cX4_clothsOn 12 = .ok (.if_icmp .ge 29, 3) := by decide +kernel
theorem dX4_clothsOn_15 : decode cX4_clothsOn 15 = .ok (.iload_n 2, 1) := by decide +kernel
theorem dX4_clothsOn_16 : decode cX4_clothsOn 16 = .ok (.aload_n 0, 1) := by decide +kernel
theorem dX4_clothsOn_17 : decode cX4_clothsOn 17 = .ok (.getfield 15, 3) := by decide +kernel
theorem dX4_clothsOn_20 : decode cX4_clothsOn 20 = .ok (.iload_n 3, 1) := by decide +kernel
theorem dX4_clothsOn_21 : decode cX4_clothsOn 21 = .ok (.iaload, 1) := by decide +kernel
theorem dX4_clothsOn_22 : decode cX4_clothsOn 22 = .ok (.iload_n 1, 1) := by decide +kernel
theorem dX4_clothsOn_23 : decode cX4_clothsOn 23 = .ok (.if_icmp .ne 9, 3) := by decide +kernel
theorem dX4_clothsOn_26 : decode cX4_clothsOn 26 = .ok (.iconst 1, 1) := by decide +kernel
theorem dX4_clothsOn_27 : decode cX4_clothsOn 27 = .ok (.iload_n 3, 1) := by decide +kernel
theorem dX4_clothsOn_28 : decode cX4_clothsOn 28 = .ok (.ishl, 1) := by decide +kernel
theorem dX4_clothsOn_29 : decode cX4_clothsOn 29 = .ok (.goto 4, 3) := by decide +kernel
theorem dX4_clothsOn_32 : decode cX4_clothsOn 32 = .ok (.iconst 0, 1) := by decide +kernel
theorem dX4_clothsOn_33 : decode cX4_clothsOn 33 = .ok (.ior, 1) := by decide +kernel
theorem dX4_clothsOn_34 : decode cX4_clothsOn 34 = .ok (.istore_n 2, 1) := by decide +kernel
theorem dX4_clothsOn_35 : decode cX4_clothsOn 35 = .ok (.iinc 3 1, 3) := by decide +kernel
theorem dX4_clothsOn_38 : decode cX4_clothsOn 38 = .ok (.goto (-34), 3) := by decide +kernel
theorem dX4_clothsOn_41 : decode cX4_clothsOn 41 = .ok (.iload_n 2, 1) := by decide +kernel
theorem dX4_clothsOn_42 : decode cX4_clothsOn 42 = .ok (.ireturn, 1) := by decide +kernel
abbrev mX4_clothsOn : MI := (RX4, yX4_clothsOn, cX4_clothsOn, 4, some .int)
theorem cvX4_clothsOn : CV mX4_clothsOn 1 := ⟨⟨mw (i := 791) (by decide +kernel), mw (i := 7) (by decide +kernel), ⟨by decide +kernel, by decide +kernel, by decide +kernel⟩, by decide⟩, mw (i := 789) (by decide +kernel), mw (i := 790) (by decide +kernel)⟩
def FX4_clothsOn (a0 : Nat) (p1 : Int32) : PP Int32 := bd (it (fun (s1 : Int32 × Int32) => (bd (gI (rf a0 0) 11) (fun x2 => if x2 ≤ s1.2 then pu (Sum.inr s1.1) else bd (aI (rf a0 2) 6 s1.2) (fun x3 => bd (if x3 = p1 then pu ((1 : Int32) <<< (s1.2 &&& 31)) else pu (0 : Int32) : PP (Int32)) (fun (v4 : Int32) => lt (s1.1 ||| v4) (fun y5 => lt (s1.2 + (1 : Int32)) (fun y6 => pu (Sum.inl (y5, y6))))))) : PP ((Int32 × Int32) ⊕ (Int32)))) FU ((0 : Int32), (0 : Int32))) (fun (v7 : Int32) => pu v7)
set_option maxHeartbeats 4000000 in
set_option maxRecDepth 100000 in
theorem SX4_clothsOn {l : Launch} {K : KK} {n : Nat} {hn : 270 ≤ n} (a0 : Nat) (p1 : Int32) (h0 : ob a0 4) : CT l K n 0 mX4_clothsOn [.ref (K.2.1 + a0), .int p1] enI (FX4_clothsOn a0 p1) := by
  refine CT.of2 (lv2 := [(0, .ref (K.2.1 + a0)), (1, .int p1)]) (by decide) rfl hn (Nat.le_of_ble_eq_true rfl) rfl (rp_id ?_)
  unfold FX4_clothsOn
  refine rp_iconst (0 : Int32) dX4_clothsOn_0 (by decide) ?_
  refine rp_istore_n [(2, .int (0 : Int32)), (0, .ref (K.2.1 + a0)), (1, .int p1)] dX4_clothsOn_1 (by decide) rfl ?_
  refine rp_iconst (0 : Int32) dX4_clothsOn_2 (by decide) ?_
  refine rp_istore_n [(3, .int (0 : Int32)), (2, .int (0 : Int32)), (0, .ref (K.2.1 + a0)), (1, .int p1)] dX4_clothsOn_3 (by decide) rfl ?_
  refine rp_as ?_
  refine rp_join 41 (fun v7 => [(2, .int v7)]) (fun _ => []) (fun v7 => ?_) (fun hX4_0 => ?_)
  · refine rp_iload_n 0 dX4_clothsOn_41 rfl ?_
    exact rp_pu (rp_iret rfl dX4_clothsOn_42)
  refine rp_sub [2, 3, 1, 0] rfl (rp_it (fun (s1 : Int32 × Int32) => [(0, .ref (K.2.1 + a0)), (1, .int p1), (2, .int s1.1), (3, .int s1.2)]) (fun N4 ih4 s1 => ?_) FU ((0 : Int32), (0 : Int32)))
  refine rp_iload_n 3 dX4_clothsOn_4 rfl ?_
  refine rp_aload_n 0 dX4_clothsOn_5 rfl ?_
  refine rp_getR fi_X4_24 h0 rfl dX4_clothsOn_6 ?_
  refine rp_getI fi_X4_61 (tX4_0 h0) rfl dX4_clothsOn_9 (fun x2 => ?_)
  refine rp_icmp_ge 41 dX4_clothsOn_12 (by decide) ?_ ?_
  · exact rp_sub [2] rfl (rp_pu (hX4_0 s1.1))
  · refine rp_iload_n 2 dX4_clothsOn_15 rfl ?_
    refine rp_aload_n 0 dX4_clothsOn_16 rfl ?_
    refine rp_getR fi_X4_15 h0 rfl dX4_clothsOn_17 ?_
    refine rp_iload_n 3 dX4_clothsOn_20 rfl ?_
    refine rp_iald (tX4_2 h0) dX4_clothsOn_21 (fun x3 => ?_)
    refine rp_iload_n 1 dX4_clothsOn_22 rfl ?_
    refine rp_as ?_
    refine rp_join 33 (fun (v4 : Int32) => [(0, .ref (K.2.1 + a0)), (1, .int p1), (3, .int s1.2)]) (fun v4 => [.int v4, .int s1.1]) (fun v4 => ?_) (fun hJ33 => ?_)
    · refine rp_ior dX4_clothsOn_33 ?_
      refine rp_lti (fun y5 => ?_)
      refine rp_istore_n [(2, .int y5), (0, .ref (K.2.1 + a0)), (1, .int p1), (3, .int s1.2)] dX4_clothsOn_34 (by decide) rfl ?_
      refine rp_iinc (fun y6 => [(3, .int y6), (2, .int y5), (0, .ref (K.2.1 + a0)), (1, .int p1)]) 3 dX4_clothsOn_35 rfl (by rfl) (by decide) (fun y6 => rfl) (fun y6 => ?_)
      refine rp_goto 4 dX4_clothsOn_38 (by decide) ?_
      exact rp_sub [2, 3, 1, 0] rfl (ih4 (y5, y6))
    refine rp_icmp_ne 32 dX4_clothsOn_23 (by decide) ?_ ?_
    · refine rp_iconst (0 : Int32) dX4_clothsOn_32 (by decide) ?_
      exact rp_sub [0, 1, 3] rfl (rp_pu (hJ33 (0 : Int32)))
    · refine rp_iconst (1 : Int32) dX4_clothsOn_26 (by decide) ?_
      refine rp_iload_n 3 dX4_clothsOn_27 rfl ?_
      refine rp_ishl dX4_clothsOn_28 ?_
      refine rp_goto 33 dX4_clothsOn_29 (by decide) ?_
      exact rp_sub [0, 1, 3] rfl (rp_pu (hJ33 ((1 : Int32) <<< (s1.2 &&& 31))))

theorem dX4_hanging_0 : decode cX4_hanging 0 = .ok (.iconst 0, 1) := by decide +kernel
theorem dX4_hanging_1 : decode cX4_hanging 1 = .ok (.istore_n 1, 1) := by decide +kernel
theorem dX4_hanging_2 : decode cX4_hanging 2 = .ok (.iconst 0, 1) := by decide +kernel
theorem dX4_hanging_3 : decode cX4_hanging 3 = .ok (.istore_n 2, 1) := by decide +kernel
theorem dX4_hanging_4 : decode cX4_hanging 4 = .ok (.iload_n 2, 1) := by decide +kernel
theorem dX4_hanging_5 : decode cX4_hanging 5 = .ok (.aload_n 0, 1) := by decide +kernel
theorem dX4_hanging_6 : decode cX4_hanging 6 = .ok (.getfield 24, 3) := by decide +kernel
theorem dX4_hanging_9 : decode cX4_hanging 9 = .ok (.getfield 61, 3) := by decide +kernel
theorem dX4_hanging_12 : decode cX4_hanging 12 = .ok (.if_icmp .ge 29, 3) := by decide +kernel
theorem dX4_hanging_15 : decode cX4_hanging 15 = .ok (.iload_n 1, 1) := by decide +kernel
theorem dX4_hanging_16 : decode cX4_hanging 16 = .ok (.aload_n 0, 1) := by decide +kernel
theorem dX4_hanging_17 : decode cX4_hanging 17 = .ok (.getfield 15, 3) := by decide +kernel
theorem dX4_hanging_20 : decode cX4_hanging 20 = .ok (.iload_n 2, 1) := by decide +kernel
theorem dX4_hanging_21 : decode cX4_hanging 21 = .ok (.iaload, 1) := by decide +kernel
theorem dX4_hanging_22 : decode cX4_hanging 22 = .ok (.iconst (-1), 1) := by decide +kernel
theorem dX4_hanging_23 : decode cX4_hanging 23 = .ok (.if_icmp .eq 9, 3) := by decide +kernel
theorem dX4_hanging_26 : decode cX4_hanging 26 = .ok (.iconst 1, 1) := by decide +kernel
theorem dX4_hanging_27 : decode cX4_hanging 27 = .ok (.iload_n 2, 1) := by decide +kernel
theorem dX4_hanging_28 : decode cX4_hanging 28 = .ok (.ishl, 1) := by decide +kernel
theorem dX4_hanging_29 : decode cX4_hanging 29 = .ok (.goto 4, 3) := by decide +kernel
theorem dX4_hanging_32 : decode cX4_hanging 32 = .ok (.iconst 0, 1) := by decide +kernel
theorem dX4_hanging_33 : decode cX4_hanging 33 = .ok (.ior, 1) := by decide +kernel
theorem dX4_hanging_34 : decode cX4_hanging 34 = .ok (.istore_n 1, 1) := by decide +kernel
theorem dX4_hanging_35 : decode cX4_hanging 35 = .ok (.iinc 2 1, 3) := by decide +kernel
theorem dX4_hanging_38 : decode cX4_hanging 38 = .ok (.goto (-34), 3) := by decide +kernel
theorem dX4_hanging_41 : decode cX4_hanging 41 = .ok (.iload_n 1, 1) := by decide +kernel
theorem dX4_hanging_42 : decode cX4_hanging 42 = .ok (.ireturn, 1) := by decide +kernel
abbrev mX4_hanging : MI := (RX4, yX4_hanging, cX4_hanging, 3, some .int)
theorem cvX4_hanging : CV mX4_hanging 0 := ⟨⟨mw (i := 834) (by decide +kernel), mw (i := 7) (by decide +kernel), ⟨by decide +kernel, by decide +kernel, by decide +kernel⟩, by decide⟩, mw (i := 832) (by decide +kernel), mw (i := 833) (by decide +kernel)⟩
def FX4_hanging (a0 : Nat) : PP Int32 := bd (it (fun (s1 : Int32 × Int32) => (bd (gI (rf a0 0) 11) (fun x2 => if x2 ≤ s1.2 then pu (Sum.inr s1.1) else bd (aI (rf a0 2) 6 s1.2) (fun x3 => bd (if x3 = (-1 : Int32) then pu (0 : Int32) else pu ((1 : Int32) <<< (s1.2 &&& 31)) : PP (Int32)) (fun (v4 : Int32) => lt (s1.1 ||| v4) (fun y5 => lt (s1.2 + (1 : Int32)) (fun y6 => pu (Sum.inl (y5, y6))))))) : PP ((Int32 × Int32) ⊕ (Int32)))) FU ((0 : Int32), (0 : Int32))) (fun (v7 : Int32) => pu v7)
set_option maxHeartbeats 4000000 in
set_option maxRecDepth 100000 in
theorem SX4_hanging {l : Launch} {K : KK} {n : Nat} {hn : 270 ≤ n} (a0 : Nat) (h0 : ob a0 4) : CT l K n 0 mX4_hanging [.ref (K.2.1 + a0)] enI (FX4_hanging a0) := by
  refine CT.of2 (lv2 := [(0, .ref (K.2.1 + a0))]) (by decide) rfl hn (Nat.le_of_ble_eq_true rfl) rfl (rp_id ?_)
  unfold FX4_hanging
  refine rp_iconst (0 : Int32) dX4_hanging_0 (by decide) ?_
  refine rp_istore_n [(1, .int (0 : Int32)), (0, .ref (K.2.1 + a0))] dX4_hanging_1 (by decide) rfl ?_
  refine rp_iconst (0 : Int32) dX4_hanging_2 (by decide) ?_
  refine rp_istore_n [(2, .int (0 : Int32)), (1, .int (0 : Int32)), (0, .ref (K.2.1 + a0))] dX4_hanging_3 (by decide) rfl ?_
  refine rp_as ?_
  refine rp_join 41 (fun v7 => [(1, .int v7)]) (fun _ => []) (fun v7 => ?_) (fun hX4_0 => ?_)
  · refine rp_iload_n 0 dX4_hanging_41 rfl ?_
    exact rp_pu (rp_iret rfl dX4_hanging_42)
  refine rp_sub [2, 1, 0] rfl (rp_it (fun (s1 : Int32 × Int32) => [(0, .ref (K.2.1 + a0)), (1, .int s1.1), (2, .int s1.2)]) (fun N4 ih4 s1 => ?_) FU ((0 : Int32), (0 : Int32)))
  refine rp_iload_n 2 dX4_hanging_4 rfl ?_
  refine rp_aload_n 0 dX4_hanging_5 rfl ?_
  refine rp_getR fi_X4_24 h0 rfl dX4_hanging_6 ?_
  refine rp_getI fi_X4_61 (tX4_0 h0) rfl dX4_hanging_9 (fun x2 => ?_)
  refine rp_icmp_ge 41 dX4_hanging_12 (by decide) ?_ ?_
  · exact rp_sub [1] rfl (rp_pu (hX4_0 s1.1))
  · refine rp_iload_n 1 dX4_hanging_15 rfl ?_
    refine rp_aload_n 0 dX4_hanging_16 rfl ?_
    refine rp_getR fi_X4_15 h0 rfl dX4_hanging_17 ?_
    refine rp_iload_n 2 dX4_hanging_20 rfl ?_
    refine rp_iald (tX4_2 h0) dX4_hanging_21 (fun x3 => ?_)
    refine rp_iconst (-1 : Int32) dX4_hanging_22 (by decide) ?_
    refine rp_as ?_
    refine rp_join 33 (fun (v4 : Int32) => [(0, .ref (K.2.1 + a0)), (2, .int s1.2)]) (fun v4 => [.int v4, .int s1.1]) (fun v4 => ?_) (fun hJ33 => ?_)
    · refine rp_ior dX4_hanging_33 ?_
      refine rp_lti (fun y5 => ?_)
      refine rp_istore_n [(1, .int y5), (0, .ref (K.2.1 + a0)), (2, .int s1.2)] dX4_hanging_34 (by decide) rfl ?_
      refine rp_iinc (fun y6 => [(2, .int y6), (1, .int y5), (0, .ref (K.2.1 + a0))]) 2 dX4_hanging_35 rfl (by rfl) (by decide) (fun y6 => rfl) (fun y6 => ?_)
      refine rp_goto 4 dX4_hanging_38 (by decide) ?_
      exact rp_sub [2, 1, 0] rfl (ih4 (y5, y6))
    refine rp_icmp_eq 32 dX4_hanging_23 (by decide) ?_ ?_
    · refine rp_iconst (0 : Int32) dX4_hanging_32 (by decide) ?_
      exact rp_sub [0, 2] rfl (rp_pu (hJ33 (0 : Int32)))
    · refine rp_iconst (1 : Int32) dX4_hanging_26 (by decide) ?_
      refine rp_iload_n 2 dX4_hanging_27 rfl ?_
      refine rp_ishl dX4_hanging_28 ?_
      refine rp_goto 33 dX4_hanging_29 (by decide) ?_
      exact rp_sub [0, 2] rfl (rp_pu (hJ33 ((1 : Int32) <<< (s1.2 &&& 31))))

theorem dX4_wetOnes_0 : decode cX4_wetOnes 0 = .ok (.iconst 0, 1) := by decide +kernel
theorem dX4_wetOnes_1 : decode cX4_wetOnes 1 = .ok (.istore_n 1, 1) := by decide +kernel
theorem dX4_wetOnes_2 : decode cX4_wetOnes 2 = .ok (.iconst 0, 1) := by decide +kernel
theorem dX4_wetOnes_3 : decode cX4_wetOnes 3 = .ok (.istore_n 2, 1) := by decide +kernel
theorem dX4_wetOnes_4 : decode cX4_wetOnes 4 = .ok (.iload_n 2, 1) := by decide +kernel
theorem dX4_wetOnes_5 : decode cX4_wetOnes 5 = .ok (.aload_n 0, 1) := by decide +kernel
theorem dX4_wetOnes_6 : decode cX4_wetOnes 6 = .ok (.getfield 24, 3) := by decide +kernel
theorem dX4_wetOnes_9 : decode cX4_wetOnes 9 = .ok (.getfield 61, 3) := by decide +kernel
theorem dX4_wetOnes_12 : decode cX4_wetOnes 12 = .ok (.if_icmp .ge 28, 3) := by decide +kernel
theorem dX4_wetOnes_15 : decode cX4_wetOnes 15 = .ok (.iload_n 1, 1) := by decide +kernel
theorem dX4_wetOnes_16 : decode cX4_wetOnes 16 = .ok (.aload_n 0, 1) := by decide +kernel
theorem dX4_wetOnes_17 : decode cX4_wetOnes 17 = .ok (.getfield 9, 3) := by decide +kernel
theorem dX4_wetOnes_20 : decode cX4_wetOnes 20 = .ok (.iload_n 2, 1) := by decide +kernel
theorem dX4_wetOnes_21 : decode cX4_wetOnes 21 = .ok (.iaload, 1) := by decide +kernel
theorem dX4_wetOnes_22 : decode cX4_wetOnes 22 = .ok (.ifCond .le 9, 3) := by decide +kernel
theorem dX4_wetOnes_25 : decode cX4_wetOnes 25 = .ok (.iconst 1, 1) := by decide +kernel
theorem dX4_wetOnes_26 : decode cX4_wetOnes 26 = .ok (.iload_n 2, 1) := by decide +kernel
theorem dX4_wetOnes_27 : decode cX4_wetOnes 27 = .ok (.ishl, 1) := by decide +kernel
theorem dX4_wetOnes_28 : decode cX4_wetOnes 28 = .ok (.goto 4, 3) := by decide +kernel
theorem dX4_wetOnes_31 : decode cX4_wetOnes 31 = .ok (.iconst 0, 1) := by decide +kernel
theorem dX4_wetOnes_32 : decode cX4_wetOnes 32 = .ok (.ior, 1) := by decide +kernel
theorem dX4_wetOnes_33 : decode cX4_wetOnes 33 = .ok (.istore_n 1, 1) := by decide +kernel
theorem dX4_wetOnes_34 : decode cX4_wetOnes 34 = .ok (.iinc 2 1, 3) := by decide +kernel
theorem dX4_wetOnes_37 : decode cX4_wetOnes 37 = .ok (.goto (-33), 3) := by decide +kernel
theorem dX4_wetOnes_40 : decode cX4_wetOnes 40 = .ok (.iload_n 1, 1) := by decide +kernel
theorem dX4_wetOnes_41 : decode cX4_wetOnes 41 = .ok (.ireturn, 1) := by decide +kernel
abbrev mX4_wetOnes : MI := (RX4, yX4_wetOnes, cX4_wetOnes, 3, some .int)
theorem cvX4_wetOnes : CV mX4_wetOnes 0 := ⟨⟨mw (i := 838) (by decide +kernel), mw (i := 7) (by decide +kernel), ⟨by decide +kernel, by decide +kernel, by decide +kernel⟩, by decide⟩, mw (i := 836) (by decide +kernel), mw (i := 837) (by decide +kernel)⟩
def FX4_wetOnes (a0 : Nat) : PP Int32 := bd (it (fun (s1 : Int32 × Int32) => (bd (gI (rf a0 0) 11) (fun x2 => if x2 ≤ s1.2 then pu (Sum.inr s1.1) else bd (aI (rf a0 1) 6 s1.2) (fun x3 => bd (if x3 ≤ 0 then pu (0 : Int32) else pu ((1 : Int32) <<< (s1.2 &&& 31)) : PP (Int32)) (fun (v4 : Int32) => lt (s1.1 ||| v4) (fun y5 => lt (s1.2 + (1 : Int32)) (fun y6 => pu (Sum.inl (y5, y6))))))) : PP ((Int32 × Int32) ⊕ (Int32)))) FU ((0 : Int32), (0 : Int32))) (fun (v7 : Int32) => pu v7)
set_option maxHeartbeats 4000000 in
set_option maxRecDepth 100000 in
theorem SX4_wetOnes {l : Launch} {K : KK} {n : Nat} {hn : 270 ≤ n} (a0 : Nat) (h0 : ob a0 4) : CT l K n 0 mX4_wetOnes [.ref (K.2.1 + a0)] enI (FX4_wetOnes a0) := by
  refine CT.of2 (lv2 := [(0, .ref (K.2.1 + a0))]) (by decide) rfl hn (Nat.le_of_ble_eq_true rfl) rfl (rp_id ?_)
  unfold FX4_wetOnes
  refine rp_iconst (0 : Int32) dX4_wetOnes_0 (by decide) ?_
  refine rp_istore_n [(1, .int (0 : Int32)), (0, .ref (K.2.1 + a0))] dX4_wetOnes_1 (by decide) rfl ?_
  refine rp_iconst (0 : Int32) dX4_wetOnes_2 (by decide) ?_
  refine rp_istore_n [(2, .int (0 : Int32)), (1, .int (0 : Int32)), (0, .ref (K.2.1 + a0))] dX4_wetOnes_3 (by decide) rfl ?_
  refine rp_as ?_
  refine rp_join 40 (fun v7 => [(1, .int v7)]) (fun _ => []) (fun v7 => ?_) (fun hX4_0 => ?_)
  · refine rp_iload_n 0 dX4_wetOnes_40 rfl ?_
    exact rp_pu (rp_iret rfl dX4_wetOnes_41)
  refine rp_sub [2, 1, 0] rfl (rp_it (fun (s1 : Int32 × Int32) => [(0, .ref (K.2.1 + a0)), (1, .int s1.1), (2, .int s1.2)]) (fun N4 ih4 s1 => ?_) FU ((0 : Int32), (0 : Int32)))
  refine rp_iload_n 2 dX4_wetOnes_4 rfl ?_
  refine rp_aload_n 0 dX4_wetOnes_5 rfl ?_
  refine rp_getR fi_X4_24 h0 rfl dX4_wetOnes_6 ?_
  refine rp_getI fi_X4_61 (tX4_0 h0) rfl dX4_wetOnes_9 (fun x2 => ?_)
  refine rp_icmp_ge 40 dX4_wetOnes_12 (by decide) ?_ ?_
  · exact rp_sub [1] rfl (rp_pu (hX4_0 s1.1))
  · refine rp_iload_n 1 dX4_wetOnes_15 rfl ?_
    refine rp_aload_n 0 dX4_wetOnes_16 rfl ?_
    refine rp_getR fi_X4_9 h0 rfl dX4_wetOnes_17 ?_
    refine rp_iload_n 2 dX4_wetOnes_20 rfl ?_
    refine rp_iald (tX4_1 h0) dX4_wetOnes_21 (fun x3 => ?_)
    refine rp_as ?_
    refine rp_join 32 (fun (v4 : Int32) => [(0, .ref (K.2.1 + a0)), (2, .int s1.2)]) (fun v4 => [.int v4, .int s1.1]) (fun v4 => ?_) (fun hJ32 => ?_)
    · refine rp_ior dX4_wetOnes_32 ?_
      refine rp_lti (fun y5 => ?_)
      refine rp_istore_n [(1, .int y5), (0, .ref (K.2.1 + a0)), (2, .int s1.2)] dX4_wetOnes_33 (by decide) rfl ?_
      refine rp_iinc (fun y6 => [(2, .int y6), (1, .int y5), (0, .ref (K.2.1 + a0))]) 2 dX4_wetOnes_34 rfl (by rfl) (by decide) (fun y6 => rfl) (fun y6 => ?_)
      refine rp_goto 4 dX4_wetOnes_37 (by decide) ?_
      exact rp_sub [2, 1, 0] rfl (ih4 (y5, y6))
    refine rp_if_le 31 dX4_wetOnes_22 (by decide) ?_ ?_
    · refine rp_iconst (0 : Int32) dX4_wetOnes_31 (by decide) ?_
      exact rp_sub [0, 2] rfl (rp_pu (hJ32 (0 : Int32)))
    · refine rp_iconst (1 : Int32) dX4_wetOnes_25 (by decide) ?_
      refine rp_iload_n 2 dX4_wetOnes_26 rfl ?_
      refine rp_ishl dX4_wetOnes_27 ?_
      refine rp_goto 32 dX4_wetOnes_28 (by decide) ?_
      exact rp_sub [0, 2] rfl (rp_pu (hJ32 ((1 : Int32) <<< (s1.2 &&& 31))))

theorem dX4_strength_0 : decode cX4_strength 0 = .ok (.aload_n 0, 1) := by decide +kernel
theorem dX4_strength_1 : decode cX4_strength 1 = .ok (.iload_n 1, 1) := by decide +kernel
theorem dX4_strength_2 : decode cX4_strength 2 = .ok (.iconst 0, 1) := by decide +kernel
theorem dX4_strength_3 : decode cX4_strength 3 = .ok (.invokevirtual 99, 3) := by decide +kernel
theorem dX4_strength_6 : decode cX4_strength 6 = .ok (.istore_n 2, 1) := by decide +kernel
theorem dX4_strength_7 : decode cX4_strength 7 = .ok (.iload_n 2, 1) := by decide +kernel
theorem dX4_strength_8 : decode cX4_strength 8 = .ok (.iconst (-1), 1) := by decide +kernel
theorem dX4_strength_9 : decode cX4_strength 9 = .ok (.if_icmp .ne 7, 3) := by decide +kernel
theorem dX4_strength_12 : decode cX4_strength 12 = .ok (.iconst 0, 1) := by decide +kernel
theorem dX4_strength_13 : decode cX4_strength 13 = .ok (.goto 9, 3) := by decide +kernel
theorem dX4_strength_16 : decode cX4_strength 16 = .ok (.aload_n 0, 1) := by decide +kernel
theorem dX4_strength_17 : decode cX4_strength 17 = .ok (.getfield 21, 3) := by decide +kernel
theorem dX4_strength_20 : decode cX4_strength 20 = .ok (.iload_n 2, 1) := by decide +kernel
theorem dX4_strength_21 : decode cX4_strength 21 = .ok (.iaload, 1) := by decide +kernel
theorem dX4_strength_22 : decode cX4_strength 22 = .ok (.ireturn, 1) := by decide +kernel
abbrev mX4_strength : MI := (RX4, yX4_strength, cX4_strength, 3, some .int)
theorem cvX4_strength : CV mX4_strength 1 := ⟨⟨mw (i := 821) (by decide +kernel), mw (i := 7) (by decide +kernel), ⟨by decide +kernel, by decide +kernel, by decide +kernel⟩, by decide⟩, mw (i := 819) (by decide +kernel), mw (i := 820) (by decide +kernel)⟩
def FX4_strength (a0 : Nat) (p1 : Int32) : PP Int32 := bd (FX4_weather a0 p1 (0 : Int32)) (fun x1 => bd (if x1 = (-1 : Int32) then pu (0 : Int32) else bd (aI (rf a0 4) 4 x1) (fun x2 => pu x2) : PP (Int32)) (fun (v3 : Int32) => pu v3))
set_option maxHeartbeats 4000000 in
set_option maxRecDepth 100000 in
theorem SX4_strength {l : Launch} {K : KK} {n : Nat} {hn : 270 ≤ n} (a0 : Nat) (p1 : Int32) (h0 : ob a0 4) : CT l K n 2 mX4_strength [.ref (K.2.1 + a0), .int p1] enI (FX4_strength a0 p1) := by
  refine CT.of2 (lv2 := [(0, .ref (K.2.1 + a0)), (1, .int p1)]) (by decide) rfl hn (Nat.le_of_ble_eq_true rfl) rfl (rp_id ?_)
  unfold FX4_strength
  refine rp_aload_n 0 dX4_strength_0 rfl ?_
  refine rp_iload_n 1 dX4_strength_1 rfl ?_
  refine rp_iconst (0 : Int32) dX4_strength_2 (by decide) ?_
  refine rp_callVi [.int p1, .int (0 : Int32)] (SX4_weather (hn := hn) a0 p1 (0 : Int32) h0) cvX4_weather (mw (i := 822) (by decide +kernel)) (by omega) h0 (by decide) rfl rfl rfl (Nat.le_of_ble_eq_true rfl) dX4_strength_3 (fun x1 => ?_)
  refine rp_istore_n [(2, .int x1), (0, .ref (K.2.1 + a0)), (1, .int p1)] dX4_strength_6 (by decide) rfl ?_
  refine rp_iload_n 0 dX4_strength_7 rfl ?_
  refine rp_iconst (-1 : Int32) dX4_strength_8 (by decide) ?_
  refine rp_as ?_
  refine rp_join 22 (fun (v3 : Int32) => []) (fun v3 => [.int v3]) (fun v3 => ?_) (fun hJ22 => ?_)
  · exact rp_pu (rp_iret rfl dX4_strength_22)
  refine rp_icmp_ne 16 dX4_strength_9 (by decide) ?_ ?_
  · refine rp_aload_n 1 dX4_strength_16 rfl ?_
    refine rp_getR fi_X4_21 h0 rfl dX4_strength_17 ?_
    refine rp_iload_n 0 dX4_strength_20 rfl ?_
    refine rp_iald (tX4_4 h0) dX4_strength_21 (fun x2 => ?_)
    exact rp_sub [] rfl (rp_pu (hJ22 x2))
  · refine rp_iconst (0 : Int32) dX4_strength_12 (by decide) ?_
    refine rp_goto 22 dX4_strength_13 (by decide) ?_
    exact rp_sub [] rfl (rp_pu (hJ22 (0 : Int32)))

theorem dX4_wind_0 : decode cX4_wind 0 = .ok (.iconst 0, 1) := by decide +kernel
theorem dX4_wind_1 : decode cX4_wind 1 = .ok (.istore_n 2, 1) := by decide +kernel
theorem dX4_wind_2 : decode cX4_wind 2 = .ok (.aload_n 0, 1) := by decide +kernel
theorem dX4_wind_3 : decode cX4_wind 3 = .ok (.getfield 24, 3) := by decide +kernel
theorem dX4_wind_6 : decode cX4_wind 6 = .ok (.getfield 96, 3) := by decide +kernel
theorem dX4_wind_9 : decode cX4_wind 9 = .ok (.iload_n 1, 1) := by decide +kernel
theorem dX4_wind_10 : decode cX4_wind 10 = .ok (.iaload, 1) := by decide +kernel
theorem dX4_wind_11 : decode cX4_wind 11 = .ok (.istore_n 3, 1) := by decide +kernel
theorem dX4_wind_12 : decode cX4_wind 12 = .ok (.iconst 0, 1) := by decide +kernel
theorem dX4_wind_13 : decode cX4_wind 13 = .ok (.istore 4, 2) := by decide +kernel
theorem dX4_wind_15 : decode cX4_wind 15 = .ok (.iload 4, 2) := by decide +kernel
theorem dX4_wind_17 : decode cX4_wind 17 = .ok (.aload_n 0, 1) := by decide +kernel
theorem dX4_wind_18 : decode cX4_wind 18 = .ok (.getfield 24, 3) := by decide +kernel
theorem dX4_wind_21 : decode cX4_wind 21 = .ok (.getfield 61, 3) := by decide +kernel
theorem dX4_wind_24 : decode cX4_wind 24 = .ok (.if_icmp .ge 63, 3) := by decide +kernel
theorem dX4_wind_27 : decode cX4_wind 27 = .ok (.aload_n 0, 1) := by decide +kernel
theorem dX4_wind_28 : decode cX4_wind 28 = .ok (.getfield 15, 3) := by decide +kernel
theorem dX4_wind_31 : decode cX4_wind 31 = .ok (.iload 4, 2) := by decide +kernel
theorem dX4_wind_33 : decode cX4_wind 33 = .ok (.iaload, 1) := by decide +kernel
theorem dX4_wind_34 : decode cX4_wind 34 = .ok (.iconst (-1), 1) := by decide +kernel
theorem dX4_wind_35 : decode cX4_wind 35 = .ok (.if_icmp .eq 22, 3) := by decide +kernel
theorem dX4_wind_38 : decode cX4_wind 38 = .ok (.iload_n 3, 1) := by decide +kernel
theorem dX4_wind_39 : decode cX4_wind 39 = .ok (.aload_n 0, 1) := by decide +kernel
theorem dX4_wind_40 : decode cX4_wind 40 = .ok (.getfield 15, 3) := by decide +kernel
theorem dX4_wind_43 : decode cX4_wind 43 = .ok (.iload 4, 2) := by decide +kernel
theorem dX4_wind_45 : decode cX4_wind 45 = .ok (.iaload, 1) := by decide +kernel
theorem dX4_wind_46 : decode cX4_wind 46 = .ok (.ishr, 1) := by decide +kernel
theorem dX4_wind_47 : decode cX4_wind 47 = .ok (.iconst 1, 1) := by decide +kernel
theorem dX4_wind_48 : decode cX4_wind 48 = .ok (.iand, 1) := by decide +kernel
theorem dX4_wind_49 : decode cX4_wind 49 = .ok (.iconst 1, 1) := by decide +kernel
theorem dX4_wind_50 : decode cX4_wind 50 = .ok (.if_icmp .ne 7, 3) := by decide +kernel
theorem dX4_wind_53 : decode cX4_wind 53 = .ok (.iconst 1, 1) := by decide +kernel
theorem dX4_wind_54 : decode cX4_wind 54 = .ok (.goto 4, 3) := by decide +kernel
theorem dX4_wind_57 : decode cX4_wind 57 = .ok (.iconst 0, 1) := by decide +kernel
theorem dX4_wind_58 : decode cX4_wind 58 = .ok (.istore 5, 2) := by decide +kernel
theorem dX4_wind_60 : decode cX4_wind 60 = .ok (.iload_n 2, 1) := by decide +kernel
theorem dX4_wind_61 : decode cX4_wind 61 = .ok (.iload 5, 2) := by decide +kernel
theorem dX4_wind_63 : decode cX4_wind 63 = .ok (.ifCond .eq 15, 3) := by decide +kernel
theorem dX4_wind_66 : decode cX4_wind 66 = .ok (.iconst 3, 1) := by decide +kernel
theorem dX4_wind_67 : decode cX4_wind 67 = .ok (.aload_n 0, 1) := by decide +kernel
theorem dX4_wind_68 : decode cX4_wind 68 = .ok (.getfield 18, 3) := by decide +kernel
theorem dX4_wind_71 : decode cX4_wind 71 = .ok (.iload 4, 2) := by decide +kernel
theorem dX4_wind_73 : decode cX4_wind 73 = .ok (.iaload, 1) := by decide +kernel
theorem dX4_wind_74 : decode cX4_wind 74 = .ok (.isub, 1) := by decide +kernel
theorem dX4_wind_75 : decode cX4_wind 75 = .ok (.goto 4, 3) := by decide +kernel
theorem dX4_wind_78 : decode cX4_wind 78 = .ok (.iconst 0, 1) := by decide +kernel
theorem dX4_wind_79 : decode cX4_wind 79 = .ok (.iadd, 1) := by decide +kernel
theorem dX4_wind_80 : decode cX4_wind 80 = .ok (.istore_n 2, 1) := by decide +kernel
theorem dX4_wind_81 : decode cX4_wind 81 = .ok (.iinc 4 1, 3) := by decide +kernel
theorem dX4_wind_84 : decode cX4_wind 84 = .ok (.goto (-69), 3) := by decide +kernel
theorem dX4_wind_87 : decode cX4_wind 87 = .ok (.iload_n 2, 1) := by decide +kernel
theorem dX4_wind_88 : decode cX4_wind 88 = .ok (.ireturn, 1) := by decide +kernel
abbrev mX4_wind : MI := (RX4, yX4_wind, cX4_wind, 6, some .int)
theorem cvX4_wind : CV mX4_wind 1 := ⟨⟨mw (i := 826) (by decide +kernel), mw (i := 7) (by decide +kernel), ⟨by decide +kernel, by decide +kernel, by decide +kernel⟩, by decide⟩, mw (i := 824) (by decide +kernel), mw (i := 825) (by decide +kernel)⟩
def FX4_wind (a0 : Nat) (p1 : Int32) : PP Int32 := bd (aI (rf (rf a0 0) 5) 4 p1) (fun x1 => bd (it (fun (s2 : Int32 × Int32) => (bd (gI (rf a0 0) 11) (fun x3 => if x3 ≤ s2.2 then pu (Sum.inr s2.1) else bd (aI (rf a0 2) 6 s2.2) (fun x4 => bd (if x4 = (-1 : Int32) then pu (0 : Int32) else bd (aI (rf a0 2) 6 s2.2) (fun x5 => if ((x1 >>> (x5 &&& 31)) &&& (1 : Int32)) = (1 : Int32) then pu (1 : Int32) else pu (0 : Int32)) : PP (Int32)) (fun (v6 : Int32) => bd (if v6 = 0 then pu (0 : Int32) else bd (aI (rf a0 3) 6 s2.2) (fun x7 => pu ((3 : Int32) - x7)) : PP (Int32)) (fun (v8 : Int32) => lt (s2.1 + v8) (fun y9 => lt (s2.2 + (1 : Int32)) (fun y10 => pu (Sum.inl (y9, y10)))))))) : PP ((Int32 × Int32) ⊕ (Int32)))) FU ((0 : Int32), (0 : Int32))) (fun (v11 : Int32) => pu v11))
set_option maxHeartbeats 4000000 in
set_option maxRecDepth 100000 in
theorem SX4_wind {l : Launch} {K : KK} {n : Nat} {hn : 270 ≤ n} (a0 : Nat) (p1 : Int32) (h0 : ob a0 4) : CT l K n 0 mX4_wind [.ref (K.2.1 + a0), .int p1] enI (FX4_wind a0 p1) := by
  refine CT.of2 (lv2 := [(0, .ref (K.2.1 + a0)), (1, .int p1)]) (by decide) rfl hn (Nat.le_of_ble_eq_true rfl) rfl (rp_id ?_)
  unfold FX4_wind
  refine rp_iconst (0 : Int32) dX4_wind_0 (by decide) ?_
  refine rp_istore_n [(2, .int (0 : Int32)), (0, .ref (K.2.1 + a0)), (1, .int p1)] dX4_wind_1 (by decide) rfl ?_
  refine rp_aload_n 1 dX4_wind_2 rfl ?_
  refine rp_getR fi_X4_24 h0 rfl dX4_wind_3 ?_
  refine rp_getR fi_X4_96 (tX4_0 h0) rfl dX4_wind_6 ?_
  refine rp_iload_n 2 dX4_wind_9 rfl ?_
  refine rp_iald (tX7_5 (tX4_0 h0)) dX4_wind_10 (fun x1 => ?_)
  refine rp_istore_n [(3, .int x1), (2, .int (0 : Int32)), (0, .ref (K.2.1 + a0)), (1, .int p1)] dX4_wind_11 (by decide) rfl ?_
  refine rp_iconst (0 : Int32) dX4_wind_12 (by decide) ?_
  refine rp_istore [(4, .int (0 : Int32)), (3, .int x1), (2, .int (0 : Int32)), (0, .ref (K.2.1 + a0)), (1, .int p1)] dX4_wind_13 (by decide) rfl ?_
  refine rp_as ?_
  refine rp_join 87 (fun v11 => [(2, .int v11)]) (fun _ => []) (fun v11 => ?_) (fun hX15_0 => ?_)
  · refine rp_iload_n 0 dX4_wind_87 rfl ?_
    exact rp_pu (rp_iret rfl dX4_wind_88)
  refine rp_sub [3, 2, 1, 0] rfl (rp_it (fun (s2 : Int32 × Int32) => [(0, .ref (K.2.1 + a0)), (2, .int s2.1), (3, .int x1), (4, .int s2.2)]) (fun N15 ih15 s2 => ?_) FU ((0 : Int32), (0 : Int32)))
  refine rp_iload 3 dX4_wind_15 rfl ?_
  refine rp_aload_n 0 dX4_wind_17 rfl ?_
  refine rp_getR fi_X4_24 h0 rfl dX4_wind_18 ?_
  refine rp_getI fi_X4_61 (tX4_0 h0) rfl dX4_wind_21 (fun x3 => ?_)
  refine rp_icmp_ge 87 dX4_wind_24 (by decide) ?_ ?_
  · exact rp_sub [1] rfl (rp_pu (hX15_0 s2.1))
  · refine rp_aload_n 0 dX4_wind_27 rfl ?_
    refine rp_getR fi_X4_15 h0 rfl dX4_wind_28 ?_
    refine rp_iload 3 dX4_wind_31 rfl ?_
    refine rp_iald (tX4_2 h0) dX4_wind_33 (fun x4 => ?_)
    refine rp_iconst (-1 : Int32) dX4_wind_34 (by decide) ?_
    refine rp_as ?_
    refine rp_join 58 (fun (v6 : Int32) => [(0, .ref (K.2.1 + a0)), (2, .int s2.1), (3, .int x1), (4, .int s2.2)]) (fun v6 => [.int v6]) (fun v6 => ?_) (fun hJ58 => ?_)
    · refine rp_istore [(5, .int v6), (0, .ref (K.2.1 + a0)), (2, .int s2.1), (3, .int x1), (4, .int s2.2)] dX4_wind_58 (by decide) rfl ?_
      refine rp_iload_n 2 dX4_wind_60 rfl ?_
      refine rp_iload 0 dX4_wind_61 rfl ?_
      refine rp_as ?_
      refine rp_join 79 (fun (v8 : Int32) => [(0, .ref (K.2.1 + a0)), (3, .int x1), (4, .int s2.2)]) (fun v8 => [.int v8, .int s2.1]) (fun v8 => ?_) (fun hJ79 => ?_)
      · refine rp_iadd dX4_wind_79 ?_
        refine rp_lti (fun y9 => ?_)
        refine rp_istore_n [(2, .int y9), (0, .ref (K.2.1 + a0)), (3, .int x1), (4, .int s2.2)] dX4_wind_80 (by decide) rfl ?_
        refine rp_iinc (fun y10 => [(4, .int y10), (2, .int y9), (0, .ref (K.2.1 + a0)), (3, .int x1)]) 3 dX4_wind_81 rfl (by rfl) (by decide) (fun y10 => rfl) (fun y10 => ?_)
        refine rp_goto 15 dX4_wind_84 (by decide) ?_
        exact rp_sub [2, 1, 3, 0] rfl (ih15 (y9, y10))
      refine rp_if_eq 78 dX4_wind_63 (by decide) ?_ ?_
      · refine rp_iconst (0 : Int32) dX4_wind_78 (by decide) ?_
        exact rp_sub [1, 3, 4] rfl (rp_pu (hJ79 (0 : Int32)))
      · refine rp_iconst (3 : Int32) dX4_wind_66 (by decide) ?_
        refine rp_aload_n 1 dX4_wind_67 rfl ?_
        refine rp_getR fi_X4_18 h0 rfl dX4_wind_68 ?_
        refine rp_iload 4 dX4_wind_71 rfl ?_
        refine rp_iald (tX4_3 h0) dX4_wind_73 (fun x7 => ?_)
        refine rp_isub dX4_wind_74 ?_
        refine rp_goto 79 dX4_wind_75 (by decide) ?_
        exact rp_sub [1, 3, 4] rfl (rp_pu (hJ79 ((3 : Int32) - x7)))
    refine rp_icmp_eq 57 dX4_wind_35 (by decide) ?_ ?_
    · refine rp_iconst (0 : Int32) dX4_wind_57 (by decide) ?_
      exact rp_sub [0, 1, 2, 3] rfl (rp_pu (hJ58 (0 : Int32)))
    · refine rp_iload_n 2 dX4_wind_38 rfl ?_
      refine rp_aload_n 0 dX4_wind_39 rfl ?_
      refine rp_getR fi_X4_15 h0 rfl dX4_wind_40 ?_
      refine rp_iload 3 dX4_wind_43 rfl ?_
      refine rp_iald (tX4_2 h0) dX4_wind_45 (fun x5 => ?_)
      refine rp_ishr dX4_wind_46 ?_
      refine rp_iconst (1 : Int32) dX4_wind_47 (by decide) ?_
      refine rp_iand dX4_wind_48 ?_
      refine rp_iconst (1 : Int32) dX4_wind_49 (by decide) ?_
      refine rp_icmp_ne 57 dX4_wind_50 (by decide) ?_ ?_
      · refine rp_iconst (0 : Int32) dX4_wind_57 (by decide) ?_
        exact rp_sub [0, 1, 2, 3] rfl (rp_pu (hJ58 (0 : Int32)))
      · refine rp_iconst (1 : Int32) dX4_wind_53 (by decide) ?_
        refine rp_goto 58 dX4_wind_54 (by decide) ?_
        exact rp_sub [0, 1, 2, 3] rfl (rp_pu (hJ58 (1 : Int32)))

theorem dX4_hasWet_0 : decode cX4_hasWet 0 = .ok (.iconst 0, 1) := by decide +kernel
theorem dX4_hasWet_1 : decode cX4_hasWet 1 = .ok (.istore_n 3, 1) := by decide +kernel
theorem dX4_hasWet_2 : decode cX4_hasWet 2 = .ok (.iload_n 3, 1) := by decide +kernel
theorem dX4_hasWet_3 : decode cX4_hasWet 3 = .ok (.aload_n 0, 1) := by decide +kernel
theorem dX4_hasWet_4 : decode cX4_hasWet 4 = .ok (.getfield 24, 3) := by decide +kernel
theorem dX4_hasWet_7 : decode cX4_hasWet 7 = .ok (.getfield 61, 3) := by decide +kernel
theorem dX4_hasWet_10 : decode cX4_hasWet 10 = .ok (.if_icmp .ge 52, 3) := by decide +kernel
theorem dX4_hasWet_13 : decode cX4_hasWet 13 = .ok (.aload_n 0, 1) := by decide +kernel
theorem dX4_hasWet_14 : decode cX4_hasWet 14 = .ok (.getfield 15, 3) := by decide +kernel
theorem dX4_hasWet_17 : decode cX4_hasWet 17 = .ok (.iload_n 3, 1) := by decide +kernel
theorem dX4_hasWet_18 : decode cX4_hasWet 18 = .ok (.iaload, 1) := by decide +kernel
theorem dX4_hasWet_19 : decode cX4_hasWet 19 = .ok (.iload_n 1, 1) := by decide +kernel
theorem dX4_hasWet_20 : decode cX4_hasWet 20 = .ok (.if_icmp .ne 36, 3) := by decide +kernel
theorem dX4_hasWet_23 : decode cX4_hasWet 23 = .ok (.aload_n 0, 1) := by decide +kernel
theorem dX4_hasWet_24 : decode cX4_hasWet 24 = .ok (.getfield 9, 3) := by decide +kernel
theorem dX4_hasWet_27 : decode cX4_hasWet 27 = .ok (.iload_n 3, 1) := by decide +kernel
theorem dX4_hasWet_28 : decode cX4_hasWet 28 = .ok (.iaload, 1) := by decide +kernel
theorem dX4_hasWet_29 : decode cX4_hasWet 29 = .ok (.ifCond .le 27, 3) := by decide +kernel
theorem dX4_hasWet_32 : decode cX4_hasWet 32 = .ok (.aload_n 0, 1) := by decide +kernel
theorem dX4_hasWet_33 : decode cX4_hasWet 33 = .ok (.getfield 24, 3) := by decide +kernel
theorem dX4_hasWet_36 : decode cX4_hasWet 36 = .ok (.getfield 80, 3) := by decide +kernel
theorem dX4_hasWet_39 : decode cX4_hasWet 39 = .ok (.iload_n 3, 1) := by decide +kernel
theorem dX4_hasWet_40 : decode cX4_hasWet 40 = .ok (.iaload, 1) := by decide +kernel
theorem dX4_hasWet_41 : decode cX4_hasWet 41 = .ok (.iconst 1, 1) := by decide +kernel
theorem dX4_hasWet_42 : decode cX4_hasWet 42 = .ok (.if_icmp .ne 7, 3) := by decide +kernel
theorem dX4_hasWet_45 : decode cX4_hasWet 45 = .ok (.iconst 1, 1) := by decide +kernel
theorem dX4_hasWet_46 : decode cX4_hasWet 46 = .ok (.goto 4, 3) := by decide +kernel
theorem dX4_hasWet_49 : decode cX4_hasWet 49 = .ok (.iconst 0, 1) := by decide +kernel
theorem dX4_hasWet_50 : decode cX4_hasWet 50 = .ok (.iload_n 2, 1) := by decide +kernel
theorem dX4_hasWet_51 : decode cX4_hasWet 51 = .ok (.if_icmp .ne 5, 3) := by decide +kernel
theorem dX4_hasWet_54 : decode cX4_hasWet 54 = .ok (.iconst 1, 1) := by decide +kernel
theorem dX4_hasWet_55 : decode cX4_hasWet 55 = .ok (.ireturn, 1) := by decide +kernel
theorem dX4_hasWet_56 : decode cX4_hasWet 56 = .ok (.iinc 3 1, 3) := by decide +kernel
theorem dX4_hasWet_59 : decode cX4_hasWet 59 = .ok (.goto (-57), 3) := by decide +kernel
theorem dX4_hasWet_62 : decode cX4_hasWet 62 = .ok (.iconst 0, 1) := by decide +kernel
theorem dX4_hasWet_63 : decode cX4_hasWet 63 = .ok (.ireturn, 1) := by decide +kernel
abbrev mX4_hasWet : MI := (RX4, yX4_hasWet, cX4_hasWet, 4, some .boolean)
theorem cvX4_hasWet : CV mX4_hasWet 2 := ⟨⟨mw (i := 1124) (by decide +kernel), mw (i := 7) (by decide +kernel), ⟨by decide +kernel, by decide +kernel, by decide +kernel⟩, by decide⟩, mw (i := 1123) (by decide +kernel), mp2 (i := 32) 7 (by decide +kernel)⟩
def FX4_hasWet (a0 : Nat) (p1 : Int32) (p2 : Int32) : PP Bool := bd (it (fun (s1 : Int32) => (bd (gI (rf a0 0) 11) (fun x2 => if x2 ≤ s1 then pu (Sum.inr (Sum.inl ())) else bd (aI (rf a0 2) 6 s1) (fun x3 => if x3 = p1 then bd (aI (rf a0 1) 6 s1) (fun x5 => if x5 ≤ 0 then lt (s1 + (1 : Int32)) (fun y6 => pu (Sum.inl y6)) else bd (aI (rf (rf a0 0) 6) 6 s1) (fun x7 => bd (if x7 = (1 : Int32) then pu (1 : Int32) else pu (0 : Int32) : PP (Int32)) (fun (v8 : Int32) => if v8 = p2 then pu (Sum.inr (Sum.inr (()))) else lt (s1 + (1 : Int32)) (fun y9 => pu (Sum.inl y9))))) else lt (s1 + (1 : Int32)) (fun y4 => pu (Sum.inl y4)))) : PP ((Int32) ⊕ ((Unit) ⊕ (Unit))))) FU (0 : Int32)) (Sum.elim (fun (v10 : Unit) => zb (0 : Int32)) (fun (v11 : Unit) => zb (1 : Int32)))
set_option maxHeartbeats 4000000 in
set_option maxRecDepth 100000 in
theorem SX4_hasWet {l : Launch} {K : KK} {n : Nat} {hn : 270 ≤ n} (a0 : Nat) (p1 : Int32) (p2 : Int32) (h0 : ob a0 4) : CT l K n 0 mX4_hasWet [.ref (K.2.1 + a0), .int p1, .int p2] enZ (FX4_hasWet a0 p1 p2) := by
  refine CT.of2 (lv2 := [(0, .ref (K.2.1 + a0)), (1, .int p1), (2, .int p2)]) (by decide) rfl hn (Nat.le_of_ble_eq_true rfl) rfl (rp_id ?_)
  unfold FX4_hasWet
  refine rp_iconst (0 : Int32) dX4_hasWet_0 (by decide) ?_
  refine rp_istore_n [(3, .int (0 : Int32)), (0, .ref (K.2.1 + a0)), (1, .int p1), (2, .int p2)] dX4_hasWet_1 (by decide) rfl ?_
  refine rp_as ?_
  refine rp_join2 62 (fun v10 => []) (fun _ => []) 54 (fun v11 => []) (fun _ => []) (fun v10 => ?_) (fun v11 => ?_) (fun hX2_0 hX2_1 => ?_)
  · refine rp_iconst (0 : Int32) dX4_hasWet_62 (by decide) ?_
    exact rp_zretb rfl dX4_hasWet_63
  · refine rp_iconst (1 : Int32) dX4_hasWet_54 (by decide) ?_
    exact rp_zretb rfl dX4_hasWet_55
  refine rp_sub [1, 2, 3, 0] rfl (rp_it (fun (s1 : Int32) => [(0, .ref (K.2.1 + a0)), (1, .int p1), (2, .int p2), (3, .int s1)]) (fun N2 ih2 s1 => ?_) FU (0 : Int32))
  refine rp_iload_n 3 dX4_hasWet_2 rfl ?_
  refine rp_aload_n 0 dX4_hasWet_3 rfl ?_
  refine rp_getR fi_X4_24 h0 rfl dX4_hasWet_4 ?_
  refine rp_getI fi_X4_61 (tX4_0 h0) rfl dX4_hasWet_7 (fun x2 => ?_)
  refine rp_icmp_ge 62 dX4_hasWet_10 (by decide) ?_ ?_
  · exact rp_sub [] rfl (rp_pu (hX2_0 ()))
  · refine rp_aload_n 0 dX4_hasWet_13 rfl ?_
    refine rp_getR fi_X4_15 h0 rfl dX4_hasWet_14 ?_
    refine rp_iload_n 3 dX4_hasWet_17 rfl ?_
    refine rp_iald (tX4_2 h0) dX4_hasWet_18 (fun x3 => ?_)
    refine rp_iload_n 1 dX4_hasWet_19 rfl ?_
    refine rp_icmp_ne 56 dX4_hasWet_20 (by decide) ?_ ?_
    · refine rp_iinc (fun y4 => [(3, .int y4), (0, .ref (K.2.1 + a0)), (1, .int p1), (2, .int p2)]) 3 dX4_hasWet_56 rfl (by rfl) (by decide) (fun y4 => rfl) (fun y4 => ?_)
      refine rp_goto 2 dX4_hasWet_59 (by decide) ?_
      exact rp_sub [1, 2, 3, 0] rfl (ih2 y4)
    · refine rp_aload_n 0 dX4_hasWet_23 rfl ?_
      refine rp_getR fi_X4_9 h0 rfl dX4_hasWet_24 ?_
      refine rp_iload_n 3 dX4_hasWet_27 rfl ?_
      refine rp_iald (tX4_1 h0) dX4_hasWet_28 (fun x5 => ?_)
      refine rp_if_le 56 dX4_hasWet_29 (by decide) ?_ ?_
      · refine rp_iinc (fun y6 => [(3, .int y6), (0, .ref (K.2.1 + a0)), (1, .int p1), (2, .int p2)]) 3 dX4_hasWet_56 rfl (by rfl) (by decide) (fun y6 => rfl) (fun y6 => ?_)
        refine rp_goto 2 dX4_hasWet_59 (by decide) ?_
        exact rp_sub [1, 2, 3, 0] rfl (ih2 y6)
      · refine rp_aload_n 0 dX4_hasWet_32 rfl ?_
        refine rp_getR fi_X4_24 h0 rfl dX4_hasWet_33 ?_
        refine rp_getR fi_X4_80 (tX4_0 h0) rfl dX4_hasWet_36 ?_
        refine rp_iload_n 3 dX4_hasWet_39 rfl ?_
        refine rp_iald (tX7_6 (tX4_0 h0)) dX4_hasWet_40 (fun x7 => ?_)
        refine rp_iconst (1 : Int32) dX4_hasWet_41 (by decide) ?_
        refine rp_as ?_
        refine rp_join 50 (fun (v8 : Int32) => [(0, .ref (K.2.1 + a0)), (1, .int p1), (2, .int p2), (3, .int s1)]) (fun v8 => [.int v8]) (fun v8 => ?_) (fun hJ50 => ?_)
        · refine rp_iload_n 2 dX4_hasWet_50 rfl ?_
          refine rp_icmp_ne 56 dX4_hasWet_51 (by decide) ?_ ?_
          · refine rp_iinc (fun y9 => [(3, .int y9), (0, .ref (K.2.1 + a0)), (1, .int p1), (2, .int p2)]) 3 dX4_hasWet_56 rfl (by rfl) (by decide) (fun y9 => rfl) (fun y9 => ?_)
            refine rp_goto 2 dX4_hasWet_59 (by decide) ?_
            exact rp_sub [1, 2, 3, 0] rfl (ih2 y9)
          · exact rp_sub [] rfl (rp_pu (hX2_1 ()))
        refine rp_icmp_ne 49 dX4_hasWet_42 (by decide) ?_ ?_
        · refine rp_iconst (0 : Int32) dX4_hasWet_49 (by decide) ?_
          exact rp_sub [0, 1, 2, 3] rfl (rp_pu (hJ50 (0 : Int32)))
        · refine rp_iconst (1 : Int32) dX4_hasWet_45 (by decide) ?_
          refine rp_goto 50 dX4_hasWet_46 (by decide) ?_
          exact rp_sub [0, 1, 2, 3] rfl (rp_pu (hJ50 (1 : Int32)))

theorem dX4_bothWet_0 : decode cX4_bothWet 0 = .ok (.aload_n 0, 1) := by decide +kernel
theorem dX4_bothWet_1 : decode cX4_bothWet 1 = .ok (.iload_n 1, 1) := by decide +kernel
theorem dX4_bothWet_2 : decode cX4_bothWet 2 = .ok (.iconst 1, 1) := by decide +kernel
theorem dX4_bothWet_3 : decode cX4_bothWet 3 = .ok (.invokevirtual 105, 3) := by decide +kernel
theorem dX4_bothWet_6 : decode cX4_bothWet 6 = .ok (.ifCond .ne 12, 3) := by decide +kernel
theorem dX4_bothWet_9 : decode cX4_bothWet 9 = .ok (.aload_n 0, 1) := by decide +kernel
theorem dX4_bothWet_10 : decode cX4_bothWet 10 = .ok (.iload_n 1, 1) := by decide +kernel
theorem dX4_bothWet_11 : decode cX4_bothWet 11 = .ok (.iconst 0, 1) := by decide +kernel
theorem dX4_bothWet_12 : decode cX4_bothWet 12 = .ok (.invokevirtual 105, 3) := by decide +kernel
theorem dX4_bothWet_15 : decode cX4_bothWet 15 = .ok (.ifCond .eq 25, 3) := by decide +kernel
theorem dX4_bothWet_18 : decode cX4_bothWet 18 = .ok (.aload_n 0, 1) := by decide +kernel
theorem dX4_bothWet_19 : decode cX4_bothWet 19 = .ok (.iload_n 2, 1) := by decide +kernel
theorem dX4_bothWet_20 : decode cX4_bothWet 20 = .ok (.iconst 1, 1) := by decide +kernel
theorem dX4_bothWet_21 : decode cX4_bothWet 21 = .ok (.invokevirtual 105, 3) := by decide +kernel
theorem dX4_bothWet_24 : decode cX4_bothWet 24 = .ok (.ifCond .ne 12, 3) := by decide +kernel
theorem dX4_bothWet_27 : decode cX4_bothWet 27 = .ok (.aload_n 0, 1) := by decide +kernel
theorem dX4_bothWet_28 : decode cX4_bothWet 28 = .ok (.iload_n 2, 1) := by decide +kernel
theorem dX4_bothWet_29 : decode cX4_bothWet 29 = .ok (.iconst 0, 1) := by decide +kernel
theorem dX4_bothWet_30 : decode cX4_bothWet 30 = .ok (.invokevirtual 105, 3) := by decide +kernel
theorem dX4_bothWet_33 : decode cX4_bothWet 33 = .ok (.ifCond .eq 7, 3) := by decide +kernel
theorem dX4_bothWet_36 : decode cX4_bothWet 36 = .ok (.iconst 1, 1) := by decide +kernel
theorem dX4_bothWet_37 : decode cX4_bothWet 37 = .ok (.goto 4, 3) := by decide +kernel
theorem dX4_bothWet_40 : decode cX4_bothWet 40 = .ok (.iconst 0, 1) := by decide +kernel
theorem dX4_bothWet_41 : decode cX4_bothWet 41 = .ok (.ireturn, 1) := by decide +kernel
abbrev mX4_bothWet : MI := (RX4, yX4_bothWet, cX4_bothWet, 3, some .boolean)
theorem cvX4_bothWet : CV mX4_bothWet 2 := ⟨⟨mw (i := 1120) (by decide +kernel), mw (i := 7) (by decide +kernel), ⟨by decide +kernel, by decide +kernel, by decide +kernel⟩, by decide⟩, mw (i := 1118) (by decide +kernel), mw (i := 1119) (by decide +kernel)⟩
def FX4_bothWet (a0 : Nat) (p1 : Int32) (p2 : Int32) : PP Bool := bd (FX4_hasWet a0 p1 (1 : Int32)) (fun x1 => bd (jn (fun (v4 : Unit) => bd (FX4_hasWet a0 p2 (1 : Int32)) (fun x5 => if ((b2i x5)) = 0 then bd (FX4_hasWet a0 p2 (0 : Int32)) (fun x6 => if ((b2i x6)) = 0 then pu (0 : Int32) else pu (1 : Int32)) else pu (1 : Int32))) (fun j2 => if ((b2i x1)) = 0 then bd (FX4_hasWet a0 p1 (0 : Int32)) (fun x3 => if ((b2i x3)) = 0 then pu (0 : Int32) else j2 ()) else j2 ()) : PP (Int32)) (fun (v7 : Int32) => zb v7))
set_option maxHeartbeats 4000000 in
set_option maxRecDepth 100000 in
theorem SX4_bothWet {l : Launch} {K : KK} {n : Nat} {hn : 270 ≤ n} (a0 : Nat) (p1 : Int32) (p2 : Int32) (h0 : ob a0 4) : CT l K n 1 mX4_bothWet [.ref (K.2.1 + a0), .int p1, .int p2] enZ (FX4_bothWet a0 p1 p2) := by
  refine CT.of2 (lv2 := [(0, .ref (K.2.1 + a0)), (1, .int p1), (2, .int p2)]) (by decide) rfl hn (Nat.le_of_ble_eq_true rfl) rfl (rp_id ?_)
  unfold FX4_bothWet
  refine rp_aload_n 0 dX4_bothWet_0 rfl ?_
  refine rp_iload_n 1 dX4_bothWet_1 rfl ?_
  refine rp_iconst (1 : Int32) dX4_bothWet_2 (by decide) ?_
  refine rp_callVz [.int p1, .int (1 : Int32)] (SX4_hasWet (hn := hn) a0 p1 (1 : Int32) h0) cvX4_hasWet (mw (i := 1121) (by decide +kernel)) (by omega) h0 (by decide) rfl rfl rfl (Nat.le_of_ble_eq_true rfl) dX4_bothWet_3 (fun x1 => ?_)
  refine rp_as ?_
  refine rp_join 41 (fun (v7 : Int32) => []) (fun v7 => [.int v7]) (fun v7 => ?_) (fun hJ41 => ?_)
  · exact rp_zretb rfl dX4_bothWet_41
  refine rp_jn2 18 (fun (v4 : Unit) => [(0, .ref (K.2.1 + a0)), (2, .int p2)]) (fun v4 => []) (fun v4 => ?_) (fun hK18 => ?_)
  · refine rp_aload_n 0 dX4_bothWet_18 rfl ?_
    refine rp_iload_n 1 dX4_bothWet_19 rfl ?_
    refine rp_iconst (1 : Int32) dX4_bothWet_20 (by decide) ?_
    refine rp_callVz [.int p2, .int (1 : Int32)] (SX4_hasWet (hn := hn) a0 p2 (1 : Int32) h0) cvX4_hasWet (mw (i := 1121) (by decide +kernel)) (by omega) h0 (by decide) rfl rfl rfl (Nat.le_of_ble_eq_true rfl) dX4_bothWet_21 (fun x5 => ?_)
    refine rp_if_ne 36 dX4_bothWet_24 (by decide) ?_ ?_
    · refine rp_iconst (1 : Int32) dX4_bothWet_36 (by decide) ?_
      refine rp_goto 41 dX4_bothWet_37 (by decide) ?_
      exact rp_sub [] rfl (rp_pu (hJ41 (1 : Int32)))
    · refine rp_aload_n 0 dX4_bothWet_27 rfl ?_
      refine rp_iload_n 1 dX4_bothWet_28 rfl ?_
      refine rp_iconst (0 : Int32) dX4_bothWet_29 (by decide) ?_
      refine rp_callVz [.int p2, .int (0 : Int32)] (SX4_hasWet (hn := hn) a0 p2 (0 : Int32) h0) cvX4_hasWet (mw (i := 1121) (by decide +kernel)) (by omega) h0 (by decide) rfl rfl rfl (Nat.le_of_ble_eq_true rfl) dX4_bothWet_30 (fun x6 => ?_)
      refine rp_if_eq 40 dX4_bothWet_33 (by decide) ?_ ?_
      · refine rp_iconst (0 : Int32) dX4_bothWet_40 (by decide) ?_
        exact rp_sub [] rfl (rp_pu (hJ41 (0 : Int32)))
      · refine rp_iconst (1 : Int32) dX4_bothWet_36 (by decide) ?_
        refine rp_goto 41 dX4_bothWet_37 (by decide) ?_
        exact rp_sub [] rfl (rp_pu (hJ41 (1 : Int32)))
  refine rp_if_ne 18 dX4_bothWet_6 (by decide) ?_ ?_
  · exact rp_sub [0, 2] rfl (hK18 ())
  · refine rp_aload_n 0 dX4_bothWet_9 rfl ?_
    refine rp_iload_n 1 dX4_bothWet_10 rfl ?_
    refine rp_iconst (0 : Int32) dX4_bothWet_11 (by decide) ?_
    refine rp_callVz [.int p1, .int (0 : Int32)] (SX4_hasWet (hn := hn) a0 p1 (0 : Int32) h0) cvX4_hasWet (mw (i := 1121) (by decide +kernel)) (by omega) h0 (by decide) rfl rfl rfl (Nat.le_of_ble_eq_true rfl) dX4_bothWet_12 (fun x3 => ?_)
    refine rp_if_eq 40 dX4_bothWet_15 (by decide) ?_ ?_
    · refine rp_iconst (0 : Int32) dX4_bothWet_40 (by decide) ?_
      exact rp_sub [] rfl (rp_pu (hJ41 (0 : Int32)))
    · exact rp_sub [0, 2] rfl (hK18 ())

theorem dX4_isRainbow_0 : decode cX4_isRainbow 0 = .ok (.aload_n 0, 1) := by decide +kernel
theorem dX4_isRainbow_1 : decode cX4_isRainbow 1 = .ok (.iload_n 1, 1) := by decide +kernel
theorem dX4_isRainbow_2 : decode cX4_isRainbow 2 = .ok (.iconst 1, 1) := by decide +kernel
theorem dX4_isRainbow_3 : decode cX4_isRainbow 3 = .ok (.invokevirtual 105, 3) := by decide +kernel
theorem dX4_isRainbow_6 : decode cX4_isRainbow 6 = .ok (.ifCond .eq 12, 3) := by decide +kernel
theorem dX4_isRainbow_9 : decode cX4_isRainbow 9 = .ok (.aload_n 0, 1) := by decide +kernel
theorem dX4_isRainbow_10 : decode cX4_isRainbow 10 = .ok (.iload_n 2, 1) := by decide +kernel
theorem dX4_isRainbow_11 : decode cX4_isRainbow 11 = .ok (.iconst 0, 1) := by decide +kernel
theorem dX4_isRainbow_12 : decode cX4_isRainbow 12 = .ok (.invokevirtual 105, 3) := by decide +kernel
theorem dX4_isRainbow_15 : decode cX4_isRainbow 15 = .ok (.ifCond .ne 21, 3) := by decide +kernel
theorem dX4_isRainbow_18 : decode cX4_isRainbow 18 = .ok (.aload_n 0, 1) := by decide +kernel
theorem dX4_isRainbow_19 : decode cX4_isRainbow 19 = .ok (.iload_n 1, 1) := by decide +kernel
theorem dX4_isRainbow_20 : decode cX4_isRainbow 20 = .ok (.iconst 0, 1) := by decide +kernel
theorem dX4_isRainbow_21 : decode cX4_isRainbow 21 = .ok (.invokevirtual 105, 3) := by decide +kernel
theorem dX4_isRainbow_24 : decode cX4_isRainbow 24 = .ok (.ifCond .eq 16, 3) := by decide +kernel
theorem dX4_isRainbow_27 : decode cX4_isRainbow 27 = .ok (.aload_n 0, 1) := by decide +kernel
theorem dX4_isRainbow_28 : decode cX4_isRainbow 28 = .ok (.iload_n 2, 1) := by decide +kernel
theorem dX4_isRainbow_29 : decode cX4_isRainbow 29 = .ok (.iconst 1, 1) := by decide +kernel
theorem dX4_isRainbow_30 : decode cX4_isRainbow 30 = .ok (.invokevirtual 105, 3) := by decide +kernel
theorem dX4_isRainbow_33 : decode cX4_isRainbow 33 = .ok (.ifCond .eq 7, 3) := by decide +kernel
theorem dX4_isRainbow_36 : decode cX4_isRainbow 36 = .ok (.iconst 1, 1) := by decide +kernel
theorem dX4_isRainbow_37 : decode cX4_isRainbow 37 = .ok (.goto 4, 3) := by decide +kernel
theorem dX4_isRainbow_40 : decode cX4_isRainbow 40 = .ok (.iconst 0, 1) := by decide +kernel
theorem dX4_isRainbow_41 : decode cX4_isRainbow 41 = .ok (.ireturn, 1) := by decide +kernel
abbrev mX4_isRainbow : MI := (RX4, yX4_isRainbow, cX4_isRainbow, 3, some .boolean)
theorem cvX4_isRainbow : CV mX4_isRainbow 2 := ⟨⟨mw (i := 1128) (by decide +kernel), mw (i := 7) (by decide +kernel), ⟨by decide +kernel, by decide +kernel, by decide +kernel⟩, by decide⟩, mw (i := 1126) (by decide +kernel), mw (i := 1127) (by decide +kernel)⟩
def FX4_isRainbow (a0 : Nat) (p1 : Int32) (p2 : Int32) : PP Bool := bd (FX4_hasWet a0 p1 (1 : Int32)) (fun x1 => bd (jn (fun (v4 : Unit) => bd (FX4_hasWet a0 p1 (0 : Int32)) (fun x5 => if ((b2i x5)) = 0 then pu (0 : Int32) else bd (FX4_hasWet a0 p2 (1 : Int32)) (fun x6 => if ((b2i x6)) = 0 then pu (0 : Int32) else pu (1 : Int32)))) (fun j2 => if ((b2i x1)) = 0 then j2 () else bd (FX4_hasWet a0 p2 (0 : Int32)) (fun x3 => if ((b2i x3)) = 0 then j2 () else pu (1 : Int32))) : PP (Int32)) (fun (v7 : Int32) => zb v7))
set_option maxHeartbeats 4000000 in
set_option maxRecDepth 100000 in
theorem SX4_isRainbow {l : Launch} {K : KK} {n : Nat} {hn : 270 ≤ n} (a0 : Nat) (p1 : Int32) (p2 : Int32) (h0 : ob a0 4) : CT l K n 1 mX4_isRainbow [.ref (K.2.1 + a0), .int p1, .int p2] enZ (FX4_isRainbow a0 p1 p2) := by
  refine CT.of2 (lv2 := [(0, .ref (K.2.1 + a0)), (1, .int p1), (2, .int p2)]) (by decide) rfl hn (Nat.le_of_ble_eq_true rfl) rfl (rp_id ?_)
  unfold FX4_isRainbow
  refine rp_aload_n 0 dX4_isRainbow_0 rfl ?_
  refine rp_iload_n 1 dX4_isRainbow_1 rfl ?_
  refine rp_iconst (1 : Int32) dX4_isRainbow_2 (by decide) ?_
  refine rp_callVz [.int p1, .int (1 : Int32)] (SX4_hasWet (hn := hn) a0 p1 (1 : Int32) h0) cvX4_hasWet (mw (i := 1121) (by decide +kernel)) (by omega) h0 (by decide) rfl rfl rfl (Nat.le_of_ble_eq_true rfl) dX4_isRainbow_3 (fun x1 => ?_)
  refine rp_as ?_
  refine rp_join 41 (fun (v7 : Int32) => []) (fun v7 => [.int v7]) (fun v7 => ?_) (fun hJ41 => ?_)
  · exact rp_zretb rfl dX4_isRainbow_41
  refine rp_jn2 18 (fun (v4 : Unit) => [(0, .ref (K.2.1 + a0)), (1, .int p1), (2, .int p2)]) (fun v4 => []) (fun v4 => ?_) (fun hK18 => ?_)
  · refine rp_aload_n 0 dX4_isRainbow_18 rfl ?_
    refine rp_iload_n 1 dX4_isRainbow_19 rfl ?_
    refine rp_iconst (0 : Int32) dX4_isRainbow_20 (by decide) ?_
    refine rp_callVz [.int p1, .int (0 : Int32)] (SX4_hasWet (hn := hn) a0 p1 (0 : Int32) h0) cvX4_hasWet (mw (i := 1121) (by decide +kernel)) (by omega) h0 (by decide) rfl rfl rfl (Nat.le_of_ble_eq_true rfl) dX4_isRainbow_21 (fun x5 => ?_)
    refine rp_if_eq 40 dX4_isRainbow_24 (by decide) ?_ ?_
    · refine rp_iconst (0 : Int32) dX4_isRainbow_40 (by decide) ?_
      exact rp_sub [] rfl (rp_pu (hJ41 (0 : Int32)))
    · refine rp_aload_n 0 dX4_isRainbow_27 rfl ?_
      refine rp_iload_n 2 dX4_isRainbow_28 rfl ?_
      refine rp_iconst (1 : Int32) dX4_isRainbow_29 (by decide) ?_
      refine rp_callVz [.int p2, .int (1 : Int32)] (SX4_hasWet (hn := hn) a0 p2 (1 : Int32) h0) cvX4_hasWet (mw (i := 1121) (by decide +kernel)) (by omega) h0 (by decide) rfl rfl rfl (Nat.le_of_ble_eq_true rfl) dX4_isRainbow_30 (fun x6 => ?_)
      refine rp_if_eq 40 dX4_isRainbow_33 (by decide) ?_ ?_
      · refine rp_iconst (0 : Int32) dX4_isRainbow_40 (by decide) ?_
        exact rp_sub [] rfl (rp_pu (hJ41 (0 : Int32)))
      · refine rp_iconst (1 : Int32) dX4_isRainbow_36 (by decide) ?_
        refine rp_goto 41 dX4_isRainbow_37 (by decide) ?_
        exact rp_sub [] rfl (rp_pu (hJ41 (1 : Int32)))
  refine rp_if_eq 18 dX4_isRainbow_6 (by decide) ?_ ?_
  · exact rp_sub [0, 1, 2] rfl (hK18 ())
  · refine rp_aload_n 0 dX4_isRainbow_9 rfl ?_
    refine rp_iload_n 2 dX4_isRainbow_10 rfl ?_
    refine rp_iconst (0 : Int32) dX4_isRainbow_11 (by decide) ?_
    refine rp_callVz [.int p2, .int (0 : Int32)] (SX4_hasWet (hn := hn) a0 p2 (0 : Int32) h0) cvX4_hasWet (mw (i := 1121) (by decide +kernel)) (by omega) h0 (by decide) rfl rfl rfl (Nat.le_of_ble_eq_true rfl) dX4_isRainbow_12 (fun x3 => ?_)
    refine rp_if_ne 36 dX4_isRainbow_15 (by decide) ?_ ?_
    · refine rp_iconst (1 : Int32) dX4_isRainbow_36 (by decide) ?_
      refine rp_goto 41 dX4_isRainbow_37 (by decide) ?_
      exact rp_sub [] rfl (rp_pu (hJ41 (1 : Int32)))
    · exact rp_sub [0, 1, 2] rfl (hK18 ())

theorem dX4_draw_0 : decode cX4_draw 0 = .ok (.aload_n 0, 1) := by decide +kernel
theorem dX4_draw_1 : decode cX4_draw 1 = .ok (.aload_n 0, 1) := by decide +kernel
theorem dX4_draw_2 : decode cX4_draw 2 = .ok (.getfield 109, 3) := by decide +kernel
theorem dX4_draw_5 : decode cX4_draw 5 = .ok (.ldc2_w 113, 3) := by decide +kernel
theorem dX4_draw_8 : decode cX4_draw 8 = .ok (.lmul, 1) := by decide +kernel
theorem dX4_draw_9 : decode cX4_draw 9 = .ok (.ldc2_w 115, 3) := by decide +kernel
theorem dX4_draw_12 : decode cX4_draw 12 = .ok (.ladd, 1) := by decide +kernel
theorem dX4_draw_13 : decode cX4_draw 13 = .ok (.ldc2_w 117, 3) := by decide +kernel
theorem dX4_draw_16 : decode cX4_draw 16 = .ok (.lrem, 1) := by decide +kernel
theorem dX4_draw_17 : decode cX4_draw 17 = .ok (.putfield 109, 3) := by decide +kernel
theorem dX4_draw_20 : decode cX4_draw 20 = .ok (.iload_n 1, 1) := by decide +kernel
theorem dX4_draw_21 : decode cX4_draw 21 = .ok (.ifCond .le 18, 3) := by decide +kernel
theorem dX4_draw_24 : decode cX4_draw 24 = .ok (.aload_n 0, 1) := by decide +kernel
theorem dX4_draw_25 : decode cX4_draw 25 = .ok (.getfield 109, 3) := by decide +kernel
theorem dX4_draw_28 : decode cX4_draw 28 = .ok (.ldc2_w 119, 3) := by decide +kernel
theorem dX4_draw_31 : decode cX4_draw 31 = .ok (.ldiv, 1) := by decide +kernel
theorem dX4_draw_32 : decode cX4_draw 32 = .ok (.iload_n 1, 1) := by decide +kernel
theorem dX4_draw_33 : decode cX4_draw 33 = .ok (.i2l, 1) := by decide +kernel
theorem dX4_draw_34 : decode cX4_draw 34 = .ok (.lrem, 1) := by decide +kernel
theorem dX4_draw_35 : decode cX4_draw 35 = .ok (.l2i, 1) := by decide +kernel
theorem dX4_draw_36 : decode cX4_draw 36 = .ok (.goto 4, 3) := by decide +kernel
theorem dX4_draw_39 : decode cX4_draw 39 = .ok (.iconst 0, 1) := by decide +kernel
theorem dX4_draw_40 : decode cX4_draw 40 = .ok (.ireturn, 1) := by decide +kernel
abbrev mX4_draw : MI := (RX4, yX4_draw, cX4_draw, 2, some .int)
theorem cvX4_draw : CV mX4_draw 1 := ⟨⟨mw (i := 1164) (by decide +kernel), mw (i := 7) (by decide +kernel), ⟨by decide +kernel, by decide +kernel, by decide +kernel⟩, by decide⟩, mw (i := 1163) (by decide +kernel), mp2 (i := 34) 7 (by decide +kernel)⟩
def FX4_draw (a0 : Nat) (p1 : Int32) : PP Int32 := bd (gL a0 6) (fun x1 => bd (gd (¬ (2147483648 : Int64) = 0)) (fun (_ : Unit) => bd (sL a0 6 (((x1 * (1103515245 : Int64)) + (12345 : Int64)) - ((x1 * (1103515245 : Int64)) + (12345 : Int64)) / (2147483648 : Int64) * (2147483648 : Int64))) (fun (_ : Unit) => bd (if p1 ≤ 0 then pu (0 : Int32) else bd (gL a0 6) (fun x2 => bd (gd (¬ (65536 : Int64) = 0)) (fun (_ : Unit) => bd (gd (¬ p1.toInt64 = 0)) (fun (_ : Unit) => pu (((x2 / (65536 : Int64)) - (x2 / (65536 : Int64)) / p1.toInt64 * p1.toInt64).toInt32)))) : PP (Int32)) (fun (v3 : Int32) => pu v3))))
set_option maxHeartbeats 4000000 in
set_option maxRecDepth 100000 in
theorem SX4_draw {l : Launch} {K : KK} {n : Nat} {hn : 270 ≤ n} (a0 : Nat) (p1 : Int32) (h0 : ob a0 4) : CT l K n 0 mX4_draw [.ref (K.2.1 + a0), .int p1] enI (FX4_draw a0 p1) := by
  refine CT.of2 (lv2 := [(0, .ref (K.2.1 + a0)), (1, .int p1)]) (by decide) rfl hn (Nat.le_of_ble_eq_true rfl) rfl (rp_id ?_)
  unfold FX4_draw
  refine rp_aload_n 0 dX4_draw_0 rfl ?_
  refine rp_aload_n 0 dX4_draw_1 rfl ?_
  refine rp_getL fi_X4_109 h0 rfl dX4_draw_2 (fun x1 => ?_)
  refine rp_ldc2 (v := 1103515245) (mw (i := 1165) (by decide +kernel)) dX4_draw_5 ?_
  refine rp_lmul dX4_draw_8 ?_
  refine rp_ldc2 (v := 12345) (mw (i := 1166) (by decide +kernel)) dX4_draw_9 ?_
  refine rp_ladd dX4_draw_12 ?_
  refine rp_ldc2 (v := 2147483648) (mw (i := 1167) (by decide +kernel)) dX4_draw_13 ?_
  refine rp_lrem dX4_draw_16 ?_
  refine rp_putL fi_X4_109 fp_X4_6 h0 rfl dX4_draw_17 ?_
  refine rp_iload_n 1 dX4_draw_20 rfl ?_
  refine rp_as ?_
  refine rp_join 40 (fun (v3 : Int32) => []) (fun v3 => [.int v3]) (fun v3 => ?_) (fun hJ40 => ?_)
  · exact rp_pu (rp_iret rfl dX4_draw_40)
  refine rp_if_le 39 dX4_draw_21 (by decide) ?_ ?_
  · refine rp_iconst (0 : Int32) dX4_draw_39 (by decide) ?_
    exact rp_sub [] rfl (rp_pu (hJ40 (0 : Int32)))
  · refine rp_aload_n 0 dX4_draw_24 rfl ?_
    refine rp_getL fi_X4_109 h0 rfl dX4_draw_25 (fun x2 => ?_)
    refine rp_ldc2 (v := 65536) (mw (i := 1168) (by decide +kernel)) dX4_draw_28 ?_
    refine rp_ldiv dX4_draw_31 ?_
    refine rp_iload_n 1 dX4_draw_32 rfl ?_
    refine rp_i2l dX4_draw_33 ?_
    refine rp_lrem dX4_draw_34 ?_
    refine rp_l2i dX4_draw_35 ?_
    refine rp_goto 40 dX4_draw_36 (by decide) ?_
    exact rp_sub [] rfl (rp_pu (hJ40 (((x2 / (65536 : Int64)) - (x2 / (65536 : Int64)) / p1.toInt64 * p1.toInt64).toInt32)))

theorem dX4_drawOne_0 : decode cX4_drawOne 0 = .ok (.aload_n 0, 1) := by decide +kernel
theorem dX4_drawOne_1 : decode cX4_drawOne 1 = .ok (.aload_n 0, 1) := by decide +kernel
theorem dX4_drawOne_2 : decode cX4_drawOne 2 = .ok (.getfield 24, 3) := by decide +kernel
theorem dX4_drawOne_5 : decode cX4_drawOne 5 = .ok (.getfield 61, 3) := by decide +kernel
theorem dX4_drawOne_8 : decode cX4_drawOne 8 = .ok (.invokevirtual 121, 3) := by decide +kernel
theorem dX4_drawOne_11 : decode cX4_drawOne 11 = .ok (.istore_n 1, 1) := by decide +kernel
theorem dX4_drawOne_12 : decode cX4_drawOne 12 = .ok (.aload_n 0, 1) := by decide +kernel
theorem dX4_drawOne_13 : decode cX4_drawOne 13 = .ok (.iload_n 1, 1) := by decide +kernel
theorem dX4_drawOne_14 : decode cX4_drawOne 14 = .ok (.invokevirtual 124, 3) := by decide +kernel
theorem dX4_drawOne_17 : decode cX4_drawOne 17 = .ok (.ifCond .eq 19, 3) := by decide +kernel
theorem dX4_drawOne_20 : decode cX4_drawOne 20 = .ok (.aload_n 0, 1) := by decide +kernel
theorem dX4_drawOne_21 : decode cX4_drawOne 21 = .ok (.getfield 9, 3) := by decide +kernel
theorem dX4_drawOne_24 : decode cX4_drawOne 24 = .ok (.iload_n 1, 1) := by decide +kernel
theorem dX4_drawOne_25 : decode cX4_drawOne 25 = .ok (.iaload, 1) := by decide +kernel
theorem dX4_drawOne_26 : decode cX4_drawOne 26 = .ok (.ifCond .ne 8, 3) := by decide +kernel
theorem dX4_drawOne_29 : decode cX4_drawOne 29 = .ok (.aload_n 0, 1) := by decide +kernel
theorem dX4_drawOne_30 : decode cX4_drawOne 30 = .ok (.iload_n 1, 1) := by decide +kernel
theorem dX4_drawOne_31 : decode cX4_drawOne 31 = .ok (.invokevirtual 127, 3) := by decide +kernel
theorem dX4_drawOne_34 : decode cX4_drawOne 34 = .ok (.iconst 0, 1) := by decide +kernel
theorem dX4_drawOne_35 : decode cX4_drawOne 35 = .ok (.ireturn, 1) := by decide +kernel
theorem dX4_drawOne_36 : decode cX4_drawOne 36 = .ok (.aload_n 0, 1) := by decide +kernel
theorem dX4_drawOne_37 : decode cX4_drawOne 37 = .ok (.iload_n 1, 1) := by decide +kernel
theorem dX4_drawOne_38 : decode cX4_drawOne 38 = .ok (.invokevirtual 131, 3) := by decide +kernel
theorem dX4_drawOne_41 : decode cX4_drawOne 41 = .ok (.aload_n 0, 1) := by decide +kernel
theorem dX4_drawOne_42 : decode cX4_drawOne 42 = .ok (.aload_n 0, 1) := by decide +kernel
theorem dX4_drawOne_43 : decode cX4_drawOne 43 = .ok (.getfield 24, 3) := by decide +kernel
theorem dX4_drawOne_46 : decode cX4_drawOne 46 = .ok (.getfield 86, 3) := by decide +kernel
theorem dX4_drawOne_49 : decode cX4_drawOne 49 = .ok (.invokevirtual 121, 3) := by decide +kernel
theorem dX4_drawOne_52 : decode cX4_drawOne 52 = .ok (.istore_n 2, 1) := by decide +kernel
theorem dX4_drawOne_53 : decode cX4_drawOne 53 = .ok (.aload_n 0, 1) := by decide +kernel
theorem dX4_drawOne_54 : decode cX4_drawOne 54 = .ok (.iconst 3, 1) := by decide +kernel
theorem dX4_drawOne_55 : decode cX4_drawOne 55 = .ok (.invokevirtual 121, 3) := by decide +kernel
theorem dX4_drawOne_58 : decode cX4_drawOne 58 = .ok (.iconst 1, 1) := by decide +kernel
theorem dX4_drawOne_59 : decode cX4_drawOne 59 = .ok (.iadd, 1) := by decide +kernel
theorem dX4_drawOne_60 : decode cX4_drawOne 60 = .ok (.istore_n 3, 1) := by decide +kernel
theorem dX4_drawOne_61 : decode cX4_drawOne 61 = .ok (.aload_n 0, 1) := by decide +kernel
theorem dX4_drawOne_62 : decode cX4_drawOne 62 = .ok (.iload_n 1, 1) := by decide +kernel
theorem dX4_drawOne_63 : decode cX4_drawOne 63 = .ok (.iload_n 2, 1) := by decide +kernel
theorem dX4_drawOne_64 : decode cX4_drawOne 64 = .ok (.iload_n 3, 1) := by decide +kernel
theorem dX4_drawOne_65 : decode cX4_drawOne 65 = .ok (.invokevirtual 134, 3) := by decide +kernel
theorem dX4_drawOne_68 : decode cX4_drawOne 68 = .ok (.ifCond .ne 5, 3) := by decide +kernel
theorem dX4_drawOne_71 : decode cX4_drawOne 71 = .ok (.iconst 0, 1) := by decide +kernel
theorem dX4_drawOne_72 : decode cX4_drawOne 72 = .ok (.ireturn, 1) := by decide +kernel
theorem dX4_drawOne_73 : decode cX4_drawOne 73 = .ok (.aload_n 0, 1) := by decide +kernel
theorem dX4_drawOne_74 : decode cX4_drawOne 74 = .ok (.iload_n 1, 1) := by decide +kernel
theorem dX4_drawOne_75 : decode cX4_drawOne 75 = .ok (.iload_n 2, 1) := by decide +kernel
theorem dX4_drawOne_76 : decode cX4_drawOne 76 = .ok (.iload_n 3, 1) := by decide +kernel
theorem dX4_drawOne_77 : decode cX4_drawOne 77 = .ok (.invokevirtual 138, 3) := by decide +kernel
theorem dX4_drawOne_80 : decode cX4_drawOne 80 = .ok (.iconst 1, 1) := by decide +kernel
theorem dX4_drawOne_81 : decode cX4_drawOne 81 = .ok (.ireturn, 1) := by decide +kernel
abbrev mX4_drawOne : MI := (RX4, yX4_drawOne, cX4_drawOne, 4, some .boolean)
theorem cvX4_drawOne : CV mX4_drawOne 0 := ⟨⟨mw (i := 1160) (by decide +kernel), mw (i := 7) (by decide +kernel), ⟨by decide +kernel, by decide +kernel, by decide +kernel⟩, by decide⟩, mw (i := 1158) (by decide +kernel), mw (i := 1159) (by decide +kernel)⟩
def FX4_drawOne (a0 : Nat) : PP Bool := bd (gI (rf a0 0) 11) (fun x1 => bd (FX4_draw a0 x1) (fun x2 => bd (FX4_hangs a0 x2) (fun x3 => if ((b2i x3)) = 0 then bd (FX4_soak a0 x2) (fun (_ : Unit) => bd (gI (rf a0 0) 9) (fun x5 => bd (FX4_draw a0 x5) (fun x6 => bd (FX4_draw a0 (3 : Int32)) (fun x7 => lt (x7 + (1 : Int32)) (fun y8 => bd (FX4_canHang a0 x2 x6 y8) (fun x9 => if ((b2i x9)) = 0 then zb (0 : Int32) else bd (FX4_putUp a0 x2 x6 y8) (fun (_ : Unit) => zb (1 : Int32)))))))) else bd (aI (rf a0 1) 6 x2) (fun x11 => bd (if x11 = 0 then bd (FX4_putDown a0 x2) (fun (_ : Unit) => pu ()) else pu () : PP (Unit)) (fun (v13 : Unit) => zb (0 : Int32))))))
set_option maxHeartbeats 4000000 in
set_option maxRecDepth 100000 in
theorem SX4_drawOne {l : Launch} {K : KK} {n : Nat} {hn : 270 ≤ n} (a0 : Nat) (h0 : ob a0 4) : CT l K n 3 mX4_drawOne [.ref (K.2.1 + a0)] enZ (FX4_drawOne a0) := by
  refine CT.of2 (lv2 := [(0, .ref (K.2.1 + a0))]) (by decide) rfl hn (Nat.le_of_ble_eq_true rfl) rfl (rp_id ?_)
  unfold FX4_drawOne
  refine rp_aload_n 0 dX4_drawOne_0 rfl ?_
  refine rp_aload_n 0 dX4_drawOne_1 rfl ?_
  refine rp_getR fi_X4_24 h0 rfl dX4_drawOne_2 ?_
  refine rp_getI fi_X4_61 (tX4_0 h0) rfl dX4_drawOne_5 (fun x1 => ?_)
  refine rp_callVi [.int x1] (SX4_draw (hn := hn) a0 x1 h0) cvX4_draw (mw (i := 1161) (by decide +kernel)) (by omega) h0 (by decide) rfl rfl rfl (Nat.le_of_ble_eq_true rfl) dX4_drawOne_8 (fun x2 => ?_)
  refine rp_istore_n [(1, .int x2), (0, .ref (K.2.1 + a0))] dX4_drawOne_11 (by decide) rfl ?_
  refine rp_aload_n 1 dX4_drawOne_12 rfl ?_
  refine rp_iload_n 0 dX4_drawOne_13 rfl ?_
  refine rp_callVz [.int x2] (SX4_hangs (hn := hn) a0 x2 h0) cvX4_hangs (mw (i := 1169) (by decide +kernel)) (by omega) h0 (by decide) rfl rfl rfl (Nat.le_of_ble_eq_true rfl) dX4_drawOne_14 (fun x3 => ?_)
  refine rp_if_eq 36 dX4_drawOne_17 (by decide) ?_ ?_
  · refine rp_aload_n 1 dX4_drawOne_36 rfl ?_
    refine rp_iload_n 0 dX4_drawOne_37 rfl ?_
    refine rp_callVv [.int x2] (SX4_soak (hn := hn) a0 x2 h0) cvX4_soak (mw (i := 1171) (by decide +kernel)) (by omega) h0 (by decide) rfl rfl rfl (Nat.le_of_ble_eq_true rfl) dX4_drawOne_38 (fun x4 => ?_)
    refine rp_aload_n 1 dX4_drawOne_41 rfl ?_
    refine rp_aload_n 1 dX4_drawOne_42 rfl ?_
    refine rp_getR fi_X4_24 h0 rfl dX4_drawOne_43 ?_
    refine rp_getI fi_X4_86 (tX4_0 h0) rfl dX4_drawOne_46 (fun x5 => ?_)
    refine rp_callVi [.int x5] (SX4_draw (hn := hn) a0 x5 h0) cvX4_draw (mw (i := 1161) (by decide +kernel)) (by omega) h0 (by decide) rfl rfl rfl (Nat.le_of_ble_eq_true rfl) dX4_drawOne_49 (fun x6 => ?_)
    refine rp_istore_n [(2, .int x6), (1, .int x2), (0, .ref (K.2.1 + a0))] dX4_drawOne_52 (by decide) rfl ?_
    refine rp_aload_n 2 dX4_drawOne_53 rfl ?_
    refine rp_iconst (3 : Int32) dX4_drawOne_54 (by decide) ?_
    refine rp_callVi [.int (3 : Int32)] (SX4_draw (hn := hn) a0 (3 : Int32) h0) cvX4_draw (mw (i := 1161) (by decide +kernel)) (by omega) h0 (by decide) rfl rfl rfl (Nat.le_of_ble_eq_true rfl) dX4_drawOne_55 (fun x7 => ?_)
    refine rp_iconst (1 : Int32) dX4_drawOne_58 (by decide) ?_
    refine rp_iadd dX4_drawOne_59 ?_
    refine rp_lti (fun y8 => ?_)
    refine rp_istore_n [(3, .int y8), (2, .int x6), (1, .int x2), (0, .ref (K.2.1 + a0))] dX4_drawOne_60 (by decide) rfl ?_
    refine rp_aload_n 3 dX4_drawOne_61 rfl ?_
    refine rp_iload_n 2 dX4_drawOne_62 rfl ?_
    refine rp_iload_n 1 dX4_drawOne_63 rfl ?_
    refine rp_iload_n 0 dX4_drawOne_64 rfl ?_
    refine rp_callVz [.int x2, .int x6, .int y8] (SX4_canHang (hn := hn) a0 x2 x6 y8 h0) cvX4_canHang (mw (i := 1172) (by decide +kernel)) (by omega) h0 (by decide) rfl rfl rfl (Nat.le_of_ble_eq_true rfl) dX4_drawOne_65 (fun x9 => ?_)
    refine rp_if_ne 73 dX4_drawOne_68 (by decide) ?_ ?_
    · refine rp_aload_n 3 dX4_drawOne_73 rfl ?_
      refine rp_iload_n 2 dX4_drawOne_74 rfl ?_
      refine rp_iload_n 1 dX4_drawOne_75 rfl ?_
      refine rp_iload_n 0 dX4_drawOne_76 rfl ?_
      refine rp_callVv [.int x2, .int x6, .int y8] (SX4_putUp (hn := hn) a0 x2 x6 y8 h0) cvX4_putUp (mw (i := 1173) (by decide +kernel)) (by omega) h0 (by decide) rfl rfl rfl (Nat.le_of_ble_eq_true rfl) dX4_drawOne_77 (fun x10 => ?_)
      refine rp_iconst (1 : Int32) dX4_drawOne_80 (by decide) ?_
      exact rp_zretb rfl dX4_drawOne_81
    · refine rp_iconst (0 : Int32) dX4_drawOne_71 (by decide) ?_
      exact rp_zretb rfl dX4_drawOne_72
  · refine rp_aload_n 1 dX4_drawOne_20 rfl ?_
    refine rp_getR fi_X4_9 h0 rfl dX4_drawOne_21 ?_
    refine rp_iload_n 0 dX4_drawOne_24 rfl ?_
    refine rp_iald (tX4_1 h0) dX4_drawOne_25 (fun x11 => ?_)
    refine rp_as ?_
    refine rp_join 34 (fun (v13 : Unit) => []) (fun v13 => []) (fun v13 => ?_) (fun hJ34 => ?_)
    · refine rp_iconst (0 : Int32) dX4_drawOne_34 (by decide) ?_
      exact rp_zretb rfl dX4_drawOne_35
    refine rp_if_ne 34 dX4_drawOne_26 (by decide) ?_ ?_
    · exact rp_sub [] rfl (rp_pu (hJ34 ()))
    · refine rp_aload_n 1 dX4_drawOne_29 rfl ?_
      refine rp_iload_n 0 dX4_drawOne_30 rfl ?_
      refine rp_callVv [.int x2] (SX4_putDown (hn := hn) a0 x2 h0) cvX4_putDown (mw (i := 1170) (by decide +kernel)) (by omega) h0 (by decide) rfl rfl rfl (Nat.le_of_ble_eq_true rfl) dX4_drawOne_31 (fun x12 => ?_)
      exact rp_sub [] rfl (rp_pu (hJ34 ()))

theorem dX5_addBytes_0 : decode cX5_addBytes 0 = .ok (.bipush 56, 2) := by decide +kernel
theorem dX5_addBytes_2 : decode cX5_addBytes 2 = .ok (.istore_n 3, 1) := by decide +kernel
theorem dX5_addBytes_3 : decode cX5_addBytes 3 = .ok (.iload_n 3, 1) := by decide +kernel
theorem dX5_addBytes_4 : decode cX5_addBytes 4 = .ok (.ifCond .lt 74, 3) := by decide +kernel
theorem dX5_addBytes_7 : decode cX5_addBytes 7 = .ok (.lload_n 1, 1) := by decide +kernel
theorem dX5_addBytes_8 : decode cX5_addBytes 8 = .ok (.iload_n 3, 1) := by decide +kernel
theorem dX5_addBytes_9 : decode cX5_addBytes 9 = .ok (.lushr, 1) := by decide +kernel
theorem dX5_addBytes_10 : decode cX5_addBytes 10 = .ok (.l2i, 1) := by decide +kernel
theorem dX5_addBytes_11 : decode cX5_addBytes 11 = .ok (.sipush 255, 3) := by decide +kernel
theorem dX5_addBytes_14 : decode cX5_addBytes 14 = .ok (.iand, 1) := by decide +kernel
theorem dX5_addBytes_15 : decode cX5_addBytes 15 = .ok (.istore 4, 2) := by decide +kernel
theorem dX5_addBytes_17 : decode cX5_addBytes 17 = .ok (.iload 4, 2) := by decide +kernel
theorem dX5_addBytes_19 : decode cX5_addBytes 19 = .ok (.bipush 10, 2) := by decide +kernel
theorem dX5_addBytes_21 : decode cX5_addBytes 21 = .ok (.if_icmp .eq 17, 3) := by decide +kernel
theorem dX5_addBytes_24 : decode cX5_addBytes 24 = .ok (.iload 4, 2) := by decide +kernel
theorem dX5_addBytes_26 : decode cX5_addBytes 26 = .ok (.bipush 32, 2) := by decide +kernel
theorem dX5_addBytes_28 : decode cX5_addBytes 28 = .ok (.if_icmp .lt 44, 3) := by decide +kernel
theorem dX5_addBytes_31 : decode cX5_addBytes 31 = .ok (.iload 4, 2) := by decide +kernel
theorem dX5_addBytes_33 : decode cX5_addBytes 33 = .ok (.bipush 126, 2) := by decide +kernel
theorem dX5_addBytes_35 : decode cX5_addBytes 35 = .ok (.if_icmp .gt 37, 3) := by decide +kernel
theorem dX5_addBytes_38 : decode cX5_addBytes 38 = .ok (.aload_n 0, 1) := by decide +kernel
theorem dX5_addBytes_39 : decode cX5_addBytes 39 = .ok (.getfield 15, 3) := by decide +kernel
theorem dX5_addBytes_42 : decode cX5_addBytes 42 = .ok (.aload_n 0, 1) := by decide +kernel
theorem dX5_addBytes_43 : decode cX5_addBytes 43 = .ok (.getfield 9, 3) := by decide +kernel
theorem dX5_addBytes_46 : decode cX5_addBytes 46 = .ok (.arraylength, 1) := by decide +kernel
theorem dX5_addBytes_47 : decode cX5_addBytes 47 = .ok (.if_icmp .ge 25, 3) := by decide +kernel
theorem dX5_addBytes_50 : decode cX5_addBytes 50 = .ok (.aload_n 0, 1) := by decide +kernel
theorem dX5_addBytes_51 : decode cX5_addBytes 51 = .ok (.getfield 9, 3) := by decide +kernel
theorem dX5_addBytes_54 : decode cX5_addBytes 54 = .ok (.aload_n 0, 1) := by decide +kernel
theorem dX5_addBytes_55 : decode cX5_addBytes 55 = .ok (.getfield 15, 3) := by decide +kernel
theorem dX5_addBytes_58 : decode cX5_addBytes 58 = .ok (.iload 4, 2) := by decide +kernel
theorem dX5_addBytes_60 : decode cX5_addBytes 60 = .ok (.i2c, 1) := by decide +kernel
theorem dX5_addBytes_61 : decode cX5_addBytes 61 = .ok (.castore, 1) := by decide +kernel
theorem dX5_addBytes_62 : decode cX5_addBytes 62 = .ok (.aload_n 0, 1) := by decide +kernel
theorem dX5_addBytes_63 : decode cX5_addBytes 63 = .ok (.dup, 1) := by decide +kernel
theorem dX5_addBytes_64 : decode cX5_addBytes 64 = .ok (.getfield 15, 3) := by decide +kernel
theorem dX5_addBytes_67 : decode cX5_addBytes 67 = .ok (.iconst 1, 1) := by decide +kernel
theorem dX5_addBytes_68 : decode cX5_addBytes 68 = .ok (.iadd, 1) := by decide +kernel
theorem dX5_addBytes_69 : decode cX5_addBytes 69 = .ok (.putfield 15, 3) := by decide +kernel
theorem dX5_addBytes_72 : decode cX5_addBytes 72 = .ok (.iinc 3 (-8), 3) := by decide +kernel
theorem dX5_addBytes_75 : decode cX5_addBytes 75 = .ok (.goto (-72), 3) := by decide +kernel
theorem dX5_addBytes_78 : decode cX5_addBytes 78 = .ok (.return_, 1) := by decide +kernel
abbrev mX5_addBytes : MI := (RX5, yX5_addBytes, cX5_addBytes, 5, none)
theorem cvX5_addBytes : CV mX5_addBytes 1 := ⟨⟨mw (i := 417) (by decide +kernel), mw (i := 2) (by decide +kernel), ⟨by decide +kernel, by decide +kernel, by decide +kernel⟩, by decide⟩, mw (i := 415) (by decide +kernel), mw (i := 416) (by decide +kernel)⟩
def FX5_addBytes (a0 : Nat) (p1 : Int64) : PP Unit := bd (it (fun (s1 : Int32) => (if s1 < 0 then pu (Sum.inr ()) else lt ((((p1.toUInt64 >>> (s1.toInt64.toUInt64 &&& Int64.toUInt64 63)).toInt64).toInt32) &&& (255 : Int32)) (fun y2 => bd (jn (fun (v4 : Unit) => bd (gI a0 1) (fun x5 => if (1000 : Int32) ≤ x5 then pu () else bd (gI a0 1) (fun x6 => bd (uI (rf a0 0) 1000 x6 ((y2.toUInt32 % 65536).toInt32)) (fun (_ : Unit) => bd (gI a0 1) (fun x7 => bd (sI a0 1 (x7 + (1 : Int32))) (fun (_ : Unit) => pu ())))))) (fun j3 => if y2 = (10 : Int32) then j3 () else if y2 < (32 : Int32) then pu () else if (126 : Int32) < y2 then pu () else j3 ()) : PP (Unit)) (fun (v8 : Unit) => lt (s1 + (-8 : Int32)) (fun y9 => pu (Sum.inl y9)))) : PP ((Int32) ⊕ (Unit)))) FU (56 : Int32)) (fun (v10 : Unit) => pu ())
set_option maxHeartbeats 4000000 in
set_option maxRecDepth 100000 in
theorem SX5_addBytes {l : Launch} {K : KK} {n : Nat} {hn : 270 ≤ n} (a0 : Nat) (p1 : Int64) (h0 : ob a0 5) : CT l K n 0 mX5_addBytes [.ref (K.2.1 + a0), .long p1] enU (FX5_addBytes a0 p1) := by
  refine CT.of2 (lv2 := [(0, .ref (K.2.1 + a0)), (1, .long p1)]) (by decide) rfl hn (Nat.le_of_ble_eq_true rfl) rfl (rp_id ?_)
  unfold FX5_addBytes
  refine rp_bipush (56 : Int32) dX5_addBytes_0 (by decide) ?_
  refine rp_istore_n [(3, .int (56 : Int32)), (0, .ref (K.2.1 + a0)), (1, .long p1)] dX5_addBytes_2 (by decide) rfl ?_
  refine rp_as ?_
  refine rp_join 78 (fun v10 => []) (fun _ => []) (fun v10 => ?_) (fun hX3_0 => ?_)
  · exact rp_pu (rp_vret rfl dX5_addBytes_78)
  refine rp_sub [1, 2, 0] rfl (rp_it (fun (s1 : Int32) => [(0, .ref (K.2.1 + a0)), (1, .long p1), (3, .int s1)]) (fun N3 ih3 s1 => ?_) FU (56 : Int32))
  refine rp_iload_n 2 dX5_addBytes_3 rfl ?_
  refine rp_if_lt 78 dX5_addBytes_4 (by decide) ?_ ?_
  · exact rp_sub [] rfl (rp_pu (hX3_0 ()))
  · refine rp_lload_n 1 dX5_addBytes_7 rfl ?_
    refine rp_iload_n 2 dX5_addBytes_8 rfl ?_
    refine rp_lushr dX5_addBytes_9 ?_
    refine rp_l2i dX5_addBytes_10 ?_
    refine rp_sipush (255 : Int32) dX5_addBytes_11 (by decide) ?_
    refine rp_iand dX5_addBytes_14 ?_
    refine rp_lti (fun y2 => ?_)
    refine rp_istore [(4, .int y2), (0, .ref (K.2.1 + a0)), (1, .long p1), (3, .int s1)] dX5_addBytes_15 (by decide) rfl ?_
    refine rp_iload 0 dX5_addBytes_17 rfl ?_
    refine rp_bipush (10 : Int32) dX5_addBytes_19 (by decide) ?_
    refine rp_as ?_
    refine rp_join 72 (fun (v8 : Unit) => [(0, .ref (K.2.1 + a0)), (1, .long p1), (3, .int s1)]) (fun v8 => []) (fun v8 => ?_) (fun hJ72 => ?_)
    · refine rp_iinc (fun y9 => [(3, .int y9), (0, .ref (K.2.1 + a0)), (1, .long p1)]) 2 dX5_addBytes_72 rfl (by rfl) (by decide) (fun y9 => rfl) (fun y9 => ?_)
      refine rp_goto 3 dX5_addBytes_75 (by decide) ?_
      exact rp_sub [1, 2, 0] rfl (ih3 y9)
    refine rp_jn2 38 (fun (v4 : Unit) => [(0, .ref (K.2.1 + a0)), (1, .long p1), (3, .int s1), (4, .int y2)]) (fun v4 => []) (fun v4 => ?_) (fun hK38 => ?_)
    · refine rp_aload_n 0 dX5_addBytes_38 rfl ?_
      refine rp_getI fi_X5_15 h0 rfl dX5_addBytes_39 (fun x5 => ?_)
      refine rp_aload_n 0 dX5_addBytes_42 rfl ?_
      refine rp_getR fi_X5_9 h0 rfl dX5_addBytes_43 ?_
      refine rp_alen (v := (1000 : Int32)) (tX5_0 h0) rfl rfl dX5_addBytes_46 ?_
      refine rp_icmp_ge 72 dX5_addBytes_47 (by decide) ?_ ?_
      · exact rp_sub [0, 1, 2] rfl (rp_pu (hJ72 ()))
      · refine rp_aload_n 0 dX5_addBytes_50 rfl ?_
        refine rp_getR fi_X5_9 h0 rfl dX5_addBytes_51 ?_
        refine rp_aload_n 0 dX5_addBytes_54 rfl ?_
        refine rp_getI fi_X5_15 h0 rfl dX5_addBytes_55 (fun x6 => ?_)
        refine rp_iload 3 dX5_addBytes_58 rfl ?_
        refine rp_i2c dX5_addBytes_60 ?_
        refine rp_cast (tX5_0 h0) (pk_vc _) dX5_addBytes_61 ?_
        refine rp_aload_n 0 dX5_addBytes_62 rfl ?_
        refine rp_dup dX5_addBytes_63 rfl ?_
        refine rp_getI fi_X5_15 h0 rfl dX5_addBytes_64 (fun x7 => ?_)
        refine rp_iconst (1 : Int32) dX5_addBytes_67 (by decide) ?_
        refine rp_iadd dX5_addBytes_68 ?_
        refine rp_putI fi_X5_15 fp_X5_1 h0 rfl dX5_addBytes_69 ?_
        exact rp_sub [0, 1, 2] rfl (rp_pu (hJ72 ()))
    refine rp_icmp_eq 38 dX5_addBytes_21 (by decide) ?_ ?_
    · exact rp_sub [1, 2, 3, 0] rfl (hK38 ())
    · refine rp_iload 0 dX5_addBytes_24 rfl ?_
      refine rp_bipush (32 : Int32) dX5_addBytes_26 (by decide) ?_
      refine rp_icmp_lt 72 dX5_addBytes_28 (by decide) ?_ ?_
      · exact rp_sub [1, 2, 3] rfl (rp_pu (hJ72 ()))
      · refine rp_iload 0 dX5_addBytes_31 rfl ?_
        refine rp_bipush (126 : Int32) dX5_addBytes_33 (by decide) ?_
        refine rp_icmp_gt 72 dX5_addBytes_35 (by decide) ?_ ?_
        · exact rp_sub [1, 2, 3] rfl (rp_pu (hJ72 ()))
        · exact rp_sub [1, 2, 3, 0] rfl (hK38 ())

theorem dX5_isDigit_0 : decode cX5_isDigit 0 = .ok (.iload_n 0, 1) := by decide +kernel
theorem dX5_isDigit_1 : decode cX5_isDigit 1 = .ok (.bipush 48, 2) := by decide +kernel
theorem dX5_isDigit_3 : decode cX5_isDigit 3 = .ok (.if_icmp .lt 13, 3) := by decide +kernel
theorem dX5_isDigit_6 : decode cX5_isDigit 6 = .ok (.iload_n 0, 1) := by decide +kernel
theorem dX5_isDigit_7 : decode cX5_isDigit 7 = .ok (.bipush 57, 2) := by decide +kernel
theorem dX5_isDigit_9 : decode cX5_isDigit 9 = .ok (.if_icmp .gt 7, 3) := by decide +kernel
theorem dX5_isDigit_12 : decode cX5_isDigit 12 = .ok (.iconst 1, 1) := by decide +kernel
theorem dX5_isDigit_13 : decode cX5_isDigit 13 = .ok (.goto 4, 3) := by decide +kernel
theorem dX5_isDigit_16 : decode cX5_isDigit 16 = .ok (.iconst 0, 1) := by decide +kernel
theorem dX5_isDigit_17 : decode cX5_isDigit 17 = .ok (.ireturn, 1) := by decide +kernel
abbrev mX5_isDigit : MI := (RX5, yX5_isDigit, cX5_isDigit, 1, some .boolean)
theorem csX5_isDigit : CS mX5_isDigit 1 := ⟨⟨mw (i := 513) (by decide +kernel), mw (i := 2) (by decide +kernel), ⟨by decide +kernel, by decide +kernel, by decide +kernel⟩, by decide⟩, mw (i := 512) (by decide +kernel)⟩
def FX5_isDigit (p1 : Int32) : PP Bool := bd (if p1 < (48 : Int32) then pu (0 : Int32) else if (57 : Int32) < p1 then pu (0 : Int32) else pu (1 : Int32) : PP (Int32)) (fun (v1 : Int32) => zb v1)
set_option maxHeartbeats 4000000 in
set_option maxRecDepth 100000 in
theorem SX5_isDigit {l : Launch} {K : KK} {n : Nat} {hn : 270 ≤ n} (p1 : Int32) : CT l K n 0 mX5_isDigit [.int p1] enZ (FX5_isDigit p1) := by
  refine CT.of2 (lv2 := [(0, .int p1)]) (by decide) rfl hn (Nat.le_of_ble_eq_true rfl) rfl (rp_id ?_)
  unfold FX5_isDigit
  refine rp_iload_n 0 dX5_isDigit_0 rfl ?_
  refine rp_bipush (48 : Int32) dX5_isDigit_1 (by decide) ?_
  refine rp_as ?_
  refine rp_join 17 (fun (v1 : Int32) => []) (fun v1 => [.int v1]) (fun v1 => ?_) (fun hJ17 => ?_)
  · exact rp_zretb rfl dX5_isDigit_17
  refine rp_icmp_lt 16 dX5_isDigit_3 (by decide) ?_ ?_
  · refine rp_iconst (0 : Int32) dX5_isDigit_16 (by decide) ?_
    exact rp_sub [] rfl (rp_pu (hJ17 (0 : Int32)))
  · refine rp_iload_n 0 dX5_isDigit_6 rfl ?_
    refine rp_bipush (57 : Int32) dX5_isDigit_7 (by decide) ?_
    refine rp_icmp_gt 16 dX5_isDigit_9 (by decide) ?_ ?_
    · refine rp_iconst (0 : Int32) dX5_isDigit_16 (by decide) ?_
      exact rp_sub [] rfl (rp_pu (hJ17 (0 : Int32)))
    · refine rp_iconst (1 : Int32) dX5_isDigit_12 (by decide) ?_
      refine rp_goto 17 dX5_isDigit_13 (by decide) ?_
      exact rp_sub [] rfl (rp_pu (hJ17 (1 : Int32)))

theorem dX5_readDigits_0 : decode cX5_readDigits 0 = .ok (.aload_n 0, 1) := by decide +kernel
theorem dX5_readDigits_1 : decode cX5_readDigits 1 = .ok (.getfield 22, 3) := by decide +kernel
theorem dX5_readDigits_4 : decode cX5_readDigits 4 = .ok (.aload_n 0, 1) := by decide +kernel
theorem dX5_readDigits_5 : decode cX5_readDigits 5 = .ok (.getfield 15, 3) := by decide +kernel
theorem dX5_readDigits_8 : decode cX5_readDigits 8 = .ok (.if_icmp .ge 55, 3) := by decide +kernel
theorem dX5_readDigits_11 : decode cX5_readDigits 11 = .ok (.aload_n 0, 1) := by decide +kernel
theorem dX5_readDigits_12 : decode cX5_readDigits 12 = .ok (.getfield 9, 3) := by decide +kernel
theorem dX5_readDigits_15 : decode cX5_readDigits 15 = .ok (.aload_n 0, 1) := by decide +kernel
theorem dX5_readDigits_16 : decode cX5_readDigits 16 = .ok (.getfield 22, 3) := by decide +kernel
theorem dX5_readDigits_19 : decode cX5_readDigits 19 = .ok (.caload, 1) := by decide +kernel
theorem dX5_readDigits_20 : decode cX5_readDigits 20 = .ok (.invokestatic 55, 3) := by decide +kernel
theorem dX5_readDigits_23 : decode cX5_readDigits 23 = .ok (.ifCond .eq 40, 3) := by decide +kernel
theorem dX5_readDigits_26 : decode cX5_readDigits 26 = .ok (.aload_n 0, 1) := by decide +kernel
theorem dX5_readDigits_27 : decode cX5_readDigits 27 = .ok (.aload_n 0, 1) := by decide +kernel
theorem dX5_readDigits_28 : decode cX5_readDigits 28 = .ok (.getfield 36, 3) := by decide +kernel
theorem dX5_readDigits_31 : decode cX5_readDigits 31 = .ok (.bipush 10, 2) := by decide +kernel
theorem dX5_readDigits_33 : decode cX5_readDigits 33 = .ok (.imul, 1) := by decide +kernel
theorem dX5_readDigits_34 : decode cX5_readDigits 34 = .ok (.aload_n 0, 1) := by decide +kernel
theorem dX5_readDigits_35 : decode cX5_readDigits 35 = .ok (.getfield 9, 3) := by decide +kernel
theorem dX5_readDigits_38 : decode cX5_readDigits 38 = .ok (.aload_n 0, 1) := by decide +kernel
theorem dX5_readDigits_39 : decode cX5_readDigits 39 = .ok (.getfield 22, 3) := by decide +kernel
theorem dX5_readDigits_42 : decode cX5_readDigits 42 = .ok (.caload, 1) := by decide +kernel
theorem dX5_readDigits_43 : decode cX5_readDigits 43 = .ok (.bipush 48, 2) := by decide +kernel
theorem dX5_readDigits_45 : decode cX5_readDigits 45 = .ok (.isub, 1) := by decide +kernel
theorem dX5_readDigits_46 : decode cX5_readDigits 46 = .ok (.iadd, 1) := by decide +kernel
theorem dX5_readDigits_47 : decode cX5_readDigits 47 = .ok (.putfield 36, 3) := by decide +kernel
theorem dX5_readDigits_50 : decode cX5_readDigits 50 = .ok (.aload_n 0, 1) := by decide +kernel
theorem dX5_readDigits_51 : decode cX5_readDigits 51 = .ok (.dup, 1) := by decide +kernel
theorem dX5_readDigits_52 : decode cX5_readDigits 52 = .ok (.getfield 22, 3) := by decide +kernel
theorem dX5_readDigits_55 : decode cX5_readDigits 55 = .ok (.iconst 1, 1) := by decide +kernel
theorem dX5_readDigits_56 : decode cX5_readDigits 56 = .ok (.iadd, 1) := by decide +kernel
theorem dX5_readDigits_57 : decode cX5_readDigits 57 = .ok (.putfield 22, 3) := by decide +kernel
theorem dX5_readDigits_60 : decode cX5_readDigits 60 = .ok (.goto (-60), 3) := by decide +kernel
theorem dX5_readDigits_63 : decode cX5_readDigits 63 = .ok (.aload_n 0, 1) := by decide +kernel
theorem dX5_readDigits_64 : decode cX5_readDigits 64 = .ok (.aload_n 0, 1) := by decide +kernel
theorem dX5_readDigits_65 : decode cX5_readDigits 65 = .ok (.getfield 22, 3) := by decide +kernel
theorem dX5_readDigits_68 : decode cX5_readDigits 68 = .ok (.aload_n 0, 1) := by decide +kernel
theorem dX5_readDigits_69 : decode cX5_readDigits 69 = .ok (.getfield 43, 3) := by decide +kernel
theorem dX5_readDigits_72 : decode cX5_readDigits 72 = .ok (.isub, 1) := by decide +kernel
theorem dX5_readDigits_73 : decode cX5_readDigits 73 = .ok (.iconst 4, 1) := by decide +kernel
theorem dX5_readDigits_74 : decode cX5_readDigits 74 = .ok (.if_icmp .le 7, 3) := by decide +kernel
theorem dX5_readDigits_77 : decode cX5_readDigits 77 = .ok (.iconst 1, 1) := by decide +kernel
theorem dX5_readDigits_78 : decode cX5_readDigits 78 = .ok (.goto 4, 3) := by decide +kernel
theorem dX5_readDigits_81 : decode cX5_readDigits 81 = .ok (.iconst 3, 1) := by decide +kernel
theorem dX5_readDigits_82 : decode cX5_readDigits 82 = .ok (.putfield 46, 3) := by decide +kernel
theorem dX5_readDigits_85 : decode cX5_readDigits 85 = .ok (.return_, 1) := by decide +kernel
abbrev mX5_readDigits : MI := (RX5, yX5_readDigits, cX5_readDigits, 1, none)
theorem cvX5_readDigits : CV mX5_readDigits 0 := ⟨⟨mw (i := 517) (by decide +kernel), mw (i := 2) (by decide +kernel), ⟨by decide +kernel, by decide +kernel, by decide +kernel⟩, by decide⟩, mw (i := 516) (by decide +kernel), mp2 (i := 2) 9 (by decide +kernel)⟩
def FX5_readDigits (a0 : Nat) : PP Unit := bd (it (fun (s1 : Unit) => (bd (gI a0 8) (fun x2 => bd (gI a0 1) (fun x3 => if x3 ≤ x2 then pu (Sum.inr ()) else bd (gI a0 8) (fun x4 => bd (aI (rf a0 0) 1000 x4) (fun x5 => bd (FX5_isDigit x5) (fun x6 => if ((b2i x6)) = 0 then pu (Sum.inr ()) else bd (gI a0 5) (fun x7 => bd (gI a0 8) (fun x8 => bd (aI (rf a0 0) 1000 x8) (fun x9 => bd (sI a0 5 ((x7 * (10 : Int32)) + (x9 - (48 : Int32)))) (fun (_ : Unit) => bd (gI a0 8) (fun x10 => bd (sI a0 8 (x10 + (1 : Int32))) (fun (_ : Unit) => pu (Sum.inl ())))))))))))) : PP ((Unit) ⊕ (Unit)))) FU ()) (fun (v11 : Unit) => bd (gI a0 8) (fun x12 => bd (gI a0 7) (fun x13 => bd (if (x12 - x13) ≤ (4 : Int32) then pu (3 : Int32) else pu (1 : Int32) : PP (Int32)) (fun (v14 : Int32) => bd (sI a0 2 v14) (fun (_ : Unit) => pu ())))))
set_option maxHeartbeats 4000000 in
set_option maxRecDepth 100000 in
theorem SX5_readDigits {l : Launch} {K : KK} {n : Nat} {hn : 270 ≤ n} (a0 : Nat) (h0 : ob a0 5) : CT l K n 1 mX5_readDigits [.ref (K.2.1 + a0)] enU (FX5_readDigits a0) := by
  refine CT.of2 (lv2 := [(0, .ref (K.2.1 + a0))]) (by decide) rfl hn (Nat.le_of_ble_eq_true rfl) rfl (rp_id ?_)
  unfold FX5_readDigits
  refine rp_as ?_
  refine rp_join 63 (fun v11 => [(0, .ref (K.2.1 + a0))]) (fun _ => []) (fun v11 => ?_) (fun hX0_0 => ?_)
  · refine rp_aload_n 0 dX5_readDigits_63 rfl ?_
    refine rp_aload_n 0 dX5_readDigits_64 rfl ?_
    refine rp_getI fi_X5_22 h0 rfl dX5_readDigits_65 (fun x12 => ?_)
    refine rp_aload_n 0 dX5_readDigits_68 rfl ?_
    refine rp_getI fi_X5_43 h0 rfl dX5_readDigits_69 (fun x13 => ?_)
    refine rp_isub dX5_readDigits_72 ?_
    refine rp_iconst (4 : Int32) dX5_readDigits_73 (by decide) ?_
    refine rp_as ?_
    refine rp_join 82 (fun (v14 : Int32) => []) (fun v14 => [.int v14, .ref (K.2.1 + a0)]) (fun v14 => ?_) (fun hJ82 => ?_)
    · refine rp_putI fi_X5_46 fp_X5_2 h0 rfl dX5_readDigits_82 ?_
      exact rp_pu (rp_vret rfl dX5_readDigits_85)
    refine rp_icmp_le 81 dX5_readDigits_74 (by decide) ?_ ?_
    · refine rp_iconst (3 : Int32) dX5_readDigits_81 (by decide) ?_
      exact rp_sub [] rfl (rp_pu (hJ82 (3 : Int32)))
    · refine rp_iconst (1 : Int32) dX5_readDigits_77 (by decide) ?_
      refine rp_goto 82 dX5_readDigits_78 (by decide) ?_
      exact rp_sub [] rfl (rp_pu (hJ82 (1 : Int32)))
  refine rp_sub [0] rfl (rp_it (fun (s1 : Unit) => [(0, .ref (K.2.1 + a0))]) (fun N0 ih0 s1 => ?_) FU ())
  refine rp_aload_n 0 dX5_readDigits_0 rfl ?_
  refine rp_getI fi_X5_22 h0 rfl dX5_readDigits_1 (fun x2 => ?_)
  refine rp_aload_n 0 dX5_readDigits_4 rfl ?_
  refine rp_getI fi_X5_15 h0 rfl dX5_readDigits_5 (fun x3 => ?_)
  refine rp_icmp_ge 63 dX5_readDigits_8 (by decide) ?_ ?_
  · exact rp_sub [0] rfl (rp_pu (hX0_0 ()))
  · refine rp_aload_n 0 dX5_readDigits_11 rfl ?_
    refine rp_getR fi_X5_9 h0 rfl dX5_readDigits_12 ?_
    refine rp_aload_n 0 dX5_readDigits_15 rfl ?_
    refine rp_getI fi_X5_22 h0 rfl dX5_readDigits_16 (fun x4 => ?_)
    refine rp_cald (tX5_0 h0) dX5_readDigits_19 (fun x5 => ?_)
    refine rp_callSz [.int x5] (SX5_isDigit (hn := hn) x5) csX5_isDigit (mw (i := 511) (by decide +kernel)) (by omega) rfl rfl (Nat.le_of_ble_eq_true rfl) dX5_readDigits_20 (fun x6 => ?_)
    refine rp_if_eq 63 dX5_readDigits_23 (by decide) ?_ ?_
    · exact rp_sub [0] rfl (rp_pu (hX0_0 ()))
    · refine rp_aload_n 0 dX5_readDigits_26 rfl ?_
      refine rp_aload_n 0 dX5_readDigits_27 rfl ?_
      refine rp_getI fi_X5_36 h0 rfl dX5_readDigits_28 (fun x7 => ?_)
      refine rp_bipush (10 : Int32) dX5_readDigits_31 (by decide) ?_
      refine rp_imul dX5_readDigits_33 ?_
      refine rp_aload_n 0 dX5_readDigits_34 rfl ?_
      refine rp_getR fi_X5_9 h0 rfl dX5_readDigits_35 ?_
      refine rp_aload_n 0 dX5_readDigits_38 rfl ?_
      refine rp_getI fi_X5_22 h0 rfl dX5_readDigits_39 (fun x8 => ?_)
      refine rp_cald (tX5_0 h0) dX5_readDigits_42 (fun x9 => ?_)
      refine rp_bipush (48 : Int32) dX5_readDigits_43 (by decide) ?_
      refine rp_isub dX5_readDigits_45 ?_
      refine rp_iadd dX5_readDigits_46 ?_
      refine rp_putI fi_X5_36 fp_X5_5 h0 rfl dX5_readDigits_47 ?_
      refine rp_aload_n 0 dX5_readDigits_50 rfl ?_
      refine rp_dup dX5_readDigits_51 rfl ?_
      refine rp_getI fi_X5_22 h0 rfl dX5_readDigits_52 (fun x10 => ?_)
      refine rp_iconst (1 : Int32) dX5_readDigits_55 (by decide) ?_
      refine rp_iadd dX5_readDigits_56 ?_
      refine rp_putI fi_X5_22 fp_X5_8 h0 rfl dX5_readDigits_57 ?_
      refine rp_goto 0 dX5_readDigits_60 (by decide) ?_
      exact rp_sub [0] rfl (ih0 ())

theorem dX5_isBlank_0 : decode cX5_isBlank 0 = .ok (.iload_n 0, 1) := by decide +kernel
theorem dX5_isBlank_1 : decode cX5_isBlank 1 = .ok (.bipush 10, 2) := by decide +kernel
theorem dX5_isBlank_3 : decode cX5_isBlank 3 = .ok (.if_icmp .eq 9, 3) := by decide +kernel
theorem dX5_isBlank_6 : decode cX5_isBlank 6 = .ok (.iload_n 0, 1) := by decide +kernel
theorem dX5_isBlank_7 : decode cX5_isBlank 7 = .ok (.bipush 32, 2) := by decide +kernel
theorem dX5_isBlank_9 : decode cX5_isBlank 9 = .ok (.if_icmp .ne 7, 3) := by decide +kernel
theorem dX5_isBlank_12 : decode cX5_isBlank 12 = .ok (.iconst 1, 1) := by decide +kernel
theorem dX5_isBlank_13 : decode cX5_isBlank 13 = .ok (.goto 4, 3) := by decide +kernel
theorem dX5_isBlank_16 : decode cX5_isBlank 16 = .ok (.iconst 0, 1) := by decide +kernel
theorem dX5_isBlank_17 : decode cX5_isBlank 17 = .ok (.ireturn, 1) := by decide +kernel
abbrev mX5_isBlank : MI := (RX5, yX5_isBlank, cX5_isBlank, 1, some .boolean)
theorem csX5_isBlank : CS mX5_isBlank 1 := ⟨⟨mw (i := 448) (by decide +kernel), mw (i := 2) (by decide +kernel), ⟨by decide +kernel, by decide +kernel, by decide +kernel⟩, by decide⟩, mw (i := 447) (by decide +kernel)⟩
def FX5_isBlank (p1 : Int32) : PP Bool := bd (if p1 = (10 : Int32) then pu (1 : Int32) else if p1 = (32 : Int32) then pu (1 : Int32) else pu (0 : Int32) : PP (Int32)) (fun (v1 : Int32) => zb v1)
set_option maxHeartbeats 4000000 in
set_option maxRecDepth 100000 in
theorem SX5_isBlank {l : Launch} {K : KK} {n : Nat} {hn : 270 ≤ n} (p1 : Int32) : CT l K n 0 mX5_isBlank [.int p1] enZ (FX5_isBlank p1) := by
  refine CT.of2 (lv2 := [(0, .int p1)]) (by decide) rfl hn (Nat.le_of_ble_eq_true rfl) rfl (rp_id ?_)
  unfold FX5_isBlank
  refine rp_iload_n 0 dX5_isBlank_0 rfl ?_
  refine rp_bipush (10 : Int32) dX5_isBlank_1 (by decide) ?_
  refine rp_as ?_
  refine rp_join 17 (fun (v1 : Int32) => []) (fun v1 => [.int v1]) (fun v1 => ?_) (fun hJ17 => ?_)
  · exact rp_zretb rfl dX5_isBlank_17
  refine rp_icmp_eq 12 dX5_isBlank_3 (by decide) ?_ ?_
  · refine rp_iconst (1 : Int32) dX5_isBlank_12 (by decide) ?_
    refine rp_goto 17 dX5_isBlank_13 (by decide) ?_
    exact rp_sub [] rfl (rp_pu (hJ17 (1 : Int32)))
  · refine rp_iload_n 0 dX5_isBlank_6 rfl ?_
    refine rp_bipush (32 : Int32) dX5_isBlank_7 (by decide) ?_
    refine rp_icmp_ne 16 dX5_isBlank_9 (by decide) ?_ ?_
    · refine rp_iconst (0 : Int32) dX5_isBlank_16 (by decide) ?_
      exact rp_sub [] rfl (rp_pu (hJ17 (0 : Int32)))
    · refine rp_iconst (1 : Int32) dX5_isBlank_12 (by decide) ?_
      refine rp_goto 17 dX5_isBlank_13 (by decide) ?_
      exact rp_sub [] rfl (rp_pu (hJ17 (1 : Int32)))

theorem dX5_isLetter_0 : decode cX5_isLetter 0 = .ok (.iload_n 0, 1) := by decide +kernel
theorem dX5_isLetter_1 : decode cX5_isLetter 1 = .ok (.bipush 97, 2) := by decide +kernel
theorem dX5_isLetter_3 : decode cX5_isLetter 3 = .ok (.if_icmp .lt 13, 3) := by decide +kernel
theorem dX5_isLetter_6 : decode cX5_isLetter 6 = .ok (.iload_n 0, 1) := by decide +kernel
theorem dX5_isLetter_7 : decode cX5_isLetter 7 = .ok (.bipush 122, 2) := by decide +kernel
theorem dX5_isLetter_9 : decode cX5_isLetter 9 = .ok (.if_icmp .gt 7, 3) := by decide +kernel
theorem dX5_isLetter_12 : decode cX5_isLetter 12 = .ok (.iconst 1, 1) := by decide +kernel
theorem dX5_isLetter_13 : decode cX5_isLetter 13 = .ok (.goto 4, 3) := by decide +kernel
theorem dX5_isLetter_16 : decode cX5_isLetter 16 = .ok (.iconst 0, 1) := by decide +kernel
theorem dX5_isLetter_17 : decode cX5_isLetter 17 = .ok (.ireturn, 1) := by decide +kernel
abbrev mX5_isLetter : MI := (RX5, yX5_isLetter, cX5_isLetter, 1, some .boolean)
theorem csX5_isLetter : CS mX5_isLetter 1 := ⟨⟨mw (i := 451) (by decide +kernel), mw (i := 2) (by decide +kernel), ⟨by decide +kernel, by decide +kernel, by decide +kernel⟩, by decide⟩, mw (i := 450) (by decide +kernel)⟩
def FX5_isLetter (p1 : Int32) : PP Bool := bd (if p1 < (97 : Int32) then pu (0 : Int32) else if (122 : Int32) < p1 then pu (0 : Int32) else pu (1 : Int32) : PP (Int32)) (fun (v1 : Int32) => zb v1)
set_option maxHeartbeats 4000000 in
set_option maxRecDepth 100000 in
theorem SX5_isLetter {l : Launch} {K : KK} {n : Nat} {hn : 270 ≤ n} (p1 : Int32) : CT l K n 0 mX5_isLetter [.int p1] enZ (FX5_isLetter p1) := by
  refine CT.of2 (lv2 := [(0, .int p1)]) (by decide) rfl hn (Nat.le_of_ble_eq_true rfl) rfl (rp_id ?_)
  unfold FX5_isLetter
  refine rp_iload_n 0 dX5_isLetter_0 rfl ?_
  refine rp_bipush (97 : Int32) dX5_isLetter_1 (by decide) ?_
  refine rp_as ?_
  refine rp_join 17 (fun (v1 : Int32) => []) (fun v1 => [.int v1]) (fun v1 => ?_) (fun hJ17 => ?_)
  · exact rp_zretb rfl dX5_isLetter_17
  refine rp_icmp_lt 16 dX5_isLetter_3 (by decide) ?_ ?_
  · refine rp_iconst (0 : Int32) dX5_isLetter_16 (by decide) ?_
    exact rp_sub [] rfl (rp_pu (hJ17 (0 : Int32)))
  · refine rp_iload_n 0 dX5_isLetter_6 rfl ?_
    refine rp_bipush (122 : Int32) dX5_isLetter_7 (by decide) ?_
    refine rp_icmp_gt 16 dX5_isLetter_9 (by decide) ?_ ?_
    · refine rp_iconst (0 : Int32) dX5_isLetter_16 (by decide) ?_
      exact rp_sub [] rfl (rp_pu (hJ17 (0 : Int32)))
    · refine rp_iconst (1 : Int32) dX5_isLetter_12 (by decide) ?_
      refine rp_goto 17 dX5_isLetter_13 (by decide) ?_
      exact rp_sub [] rfl (rp_pu (hJ17 (1 : Int32)))

theorem dX6_add_0 : decode cX6_add 0 = .ok (.aload_n 0, 1) := by decide +kernel
theorem dX6_add_1 : decode cX6_add 1 = .ok (.getfield 39, 3) := by decide +kernel
theorem dX6_add_4 : decode cX6_add 4 = .ok (.bipush 6, 2) := by decide +kernel
theorem dX6_add_6 : decode cX6_add 6 = .ok (.if_icmp .lt 5, 3) := by decide +kernel
theorem dX6_add_9 : decode cX6_add 9 = .ok (.iconst 0, 1) := by decide +kernel
theorem dX6_add_10 : decode cX6_add 10 = .ok (.ireturn, 1) := by decide +kernel
theorem dX6_add_11 : decode cX6_add 11 = .ok (.aload_n 0, 1) := by decide +kernel
theorem dX6_add_12 : decode cX6_add 12 = .ok (.getfield 9, 3) := by decide +kernel
theorem dX6_add_15 : decode cX6_add 15 = .ok (.aload_n 0, 1) := by decide +kernel
theorem dX6_add_16 : decode cX6_add 16 = .ok (.getfield 39, 3) := by decide +kernel
theorem dX6_add_19 : decode cX6_add 19 = .ok (.iload_n 1, 1) := by decide +kernel
theorem dX6_add_20 : decode cX6_add 20 = .ok (.iastore, 1) := by decide +kernel
theorem dX6_add_21 : decode cX6_add 21 = .ok (.aload_n 0, 1) := by decide +kernel
theorem dX6_add_22 : decode cX6_add 22 = .ok (.getfield 15, 3) := by decide +kernel
theorem dX6_add_25 : decode cX6_add 25 = .ok (.aload_n 0, 1) := by decide +kernel
theorem dX6_add_26 : decode cX6_add 26 = .ok (.getfield 39, 3) := by decide +kernel
theorem dX6_add_29 : decode cX6_add 29 = .ok (.iload_n 2, 1) := by decide +kernel
theorem dX6_add_30 : decode cX6_add 30 = .ok (.iastore, 1) := by decide +kernel
theorem dX6_add_31 : decode cX6_add 31 = .ok (.aload_n 0, 1) := by decide +kernel
theorem dX6_add_32 : decode cX6_add 32 = .ok (.getfield 18, 3) := by decide +kernel
theorem dX6_add_35 : decode cX6_add 35 = .ok (.aload_n 0, 1) := by decide +kernel
theorem dX6_add_36 : decode cX6_add 36 = .ok (.getfield 39, 3) := by decide +kernel
theorem dX6_add_39 : decode cX6_add 39 = .ok (.iload_n 3, 1) := by decide +kernel
theorem dX6_add_40 : decode cX6_add 40 = .ok (.iastore, 1) := by decide +kernel
theorem dX6_add_41 : decode cX6_add 41 = .ok (.aload_n 0, 1) := by decide +kernel
theorem dX6_add_42 : decode cX6_add 42 = .ok (.dup, 1) := by decide +kernel
theorem dX6_add_43 : decode cX6_add 43 = .ok (.getfield 39, 3) := by decide +kernel
theorem dX6_add_46 : decode cX6_add 46 = .ok (.iconst 1, 1) := by decide +kernel
theorem dX6_add_47 : decode cX6_add 47 = .ok (.iadd, 1) := by decide +kernel
theorem dX6_add_48 : decode cX6_add 48 = .ok (.putfield 39, 3) := by decide +kernel
theorem dX6_add_51 : decode cX6_add 51 = .ok (.iconst 1, 1) := by decide +kernel
theorem dX6_add_52 : decode cX6_add 52 = .ok (.ireturn, 1) := by decide +kernel
abbrev mX6_add : MI := (RX6, yX6_add, cX6_add, 4, some .boolean)
theorem cvX6_add : CV mX6_add 3 := ⟨⟨mw (i := 1073) (by decide +kernel), mw (i := 10) (by decide +kernel), ⟨by decide +kernel, by decide +kernel, by decide +kernel⟩, by decide⟩, mw (i := 1071) (by decide +kernel), mw (i := 1072) (by decide +kernel)⟩
def FX6_add (a0 : Nat) (p1 : Int32) (p2 : Int32) (p3 : Int32) : PP Bool := bd (gI a0 3) (fun x1 => if x1 < (6 : Int32) then bd (gI a0 3) (fun x2 => bd (uI (rf a0 0) 6 x2 p1) (fun (_ : Unit) => bd (gI a0 3) (fun x3 => bd (uI (rf a0 1) 6 x3 p2) (fun (_ : Unit) => bd (gI a0 3) (fun x4 => bd (uI (rf a0 2) 6 x4 p3) (fun (_ : Unit) => bd (gI a0 3) (fun x5 => bd (sI a0 3 (x5 + (1 : Int32))) (fun (_ : Unit) => zb (1 : Int32))))))))) else zb (0 : Int32))
set_option maxHeartbeats 4000000 in
set_option maxRecDepth 100000 in
theorem SX6_add {l : Launch} {K : KK} {n : Nat} {hn : 270 ≤ n} (a0 : Nat) (p1 : Int32) (p2 : Int32) (p3 : Int32) (h0 : ob a0 6) : CT l K n 0 mX6_add [.ref (K.2.1 + a0), .int p1, .int p2, .int p3] enZ (FX6_add a0 p1 p2 p3) := by
  refine CT.of2 (lv2 := [(0, .ref (K.2.1 + a0)), (1, .int p1), (2, .int p2), (3, .int p3)]) (by decide) rfl hn (Nat.le_of_ble_eq_true rfl) rfl (rp_id ?_)
  unfold FX6_add
  refine rp_aload_n 0 dX6_add_0 rfl ?_
  refine rp_getI fi_X6_39 h0 rfl dX6_add_1 (fun x1 => ?_)
  refine rp_bipush (6 : Int32) dX6_add_4 (by decide) ?_
  refine rp_icmp_lt 11 dX6_add_6 (by decide) ?_ ?_
  · refine rp_aload_n 0 dX6_add_11 rfl ?_
    refine rp_getR fi_X6_9 h0 rfl dX6_add_12 ?_
    refine rp_aload_n 0 dX6_add_15 rfl ?_
    refine rp_getI fi_X6_39 h0 rfl dX6_add_16 (fun x2 => ?_)
    refine rp_iload_n 1 dX6_add_19 rfl ?_
    refine rp_iast (tX6_0 h0) dX6_add_20 ?_
    refine rp_aload_n 0 dX6_add_21 rfl ?_
    refine rp_getR fi_X6_15 h0 rfl dX6_add_22 ?_
    refine rp_aload_n 0 dX6_add_25 rfl ?_
    refine rp_getI fi_X6_39 h0 rfl dX6_add_26 (fun x3 => ?_)
    refine rp_iload_n 2 dX6_add_29 rfl ?_
    refine rp_iast (tX6_1 h0) dX6_add_30 ?_
    refine rp_aload_n 0 dX6_add_31 rfl ?_
    refine rp_getR fi_X6_18 h0 rfl dX6_add_32 ?_
    refine rp_aload_n 0 dX6_add_35 rfl ?_
    refine rp_getI fi_X6_39 h0 rfl dX6_add_36 (fun x4 => ?_)
    refine rp_iload_n 3 dX6_add_39 rfl ?_
    refine rp_iast (tX6_2 h0) dX6_add_40 ?_
    refine rp_aload_n 0 dX6_add_41 rfl ?_
    refine rp_dup dX6_add_42 rfl ?_
    refine rp_getI fi_X6_39 h0 rfl dX6_add_43 (fun x5 => ?_)
    refine rp_iconst (1 : Int32) dX6_add_46 (by decide) ?_
    refine rp_iadd dX6_add_47 ?_
    refine rp_putI fi_X6_39 fp_X6_3 h0 rfl dX6_add_48 ?_
    refine rp_iconst (1 : Int32) dX6_add_51 (by decide) ?_
    exact rp_zretb rfl dX6_add_52
  · refine rp_iconst (0 : Int32) dX6_add_9 (by decide) ?_
    exact rp_zretb rfl dX6_add_10

theorem dX6_agrees_0 : decode cX6_agrees 0 = .ok (.iconst 0, 1) := by decide +kernel
theorem dX6_agrees_1 : decode cX6_agrees 1 = .ok (.istore_n 2, 1) := by decide +kernel
theorem dX6_agrees_2 : decode cX6_agrees 2 = .ok (.iload_n 2, 1) := by decide +kernel
theorem dX6_agrees_3 : decode cX6_agrees 3 = .ok (.aload_n 0, 1) := by decide +kernel
theorem dX6_agrees_4 : decode cX6_agrees 4 = .ok (.getfield 39, 3) := by decide +kernel
theorem dX6_agrees_7 : decode cX6_agrees 7 = .ok (.if_icmp .ge 44, 3) := by decide +kernel
theorem dX6_agrees_10 : decode cX6_agrees 10 = .ok (.aload_n 0, 1) := by decide +kernel
theorem dX6_agrees_11 : decode cX6_agrees 11 = .ok (.getfield 15, 3) := by decide +kernel
theorem dX6_agrees_14 : decode cX6_agrees 14 = .ok (.iload_n 2, 1) := by decide +kernel
theorem dX6_agrees_15 : decode cX6_agrees 15 = .ok (.iaload, 1) := by decide +kernel
theorem dX6_agrees_16 : decode cX6_agrees 16 = .ok (.iload_n 1, 1) := by decide +kernel
theorem dX6_agrees_17 : decode cX6_agrees 17 = .ok (.if_icmp .ne 28, 3) := by decide +kernel
theorem dX6_agrees_20 : decode cX6_agrees 20 = .ok (.aload_n 0, 1) := by decide +kernel
theorem dX6_agrees_21 : decode cX6_agrees 21 = .ok (.getfield 29, 3) := by decide +kernel
theorem dX6_agrees_24 : decode cX6_agrees 24 = .ok (.aload_n 0, 1) := by decide +kernel
theorem dX6_agrees_25 : decode cX6_agrees 25 = .ok (.getfield 9, 3) := by decide +kernel
theorem dX6_agrees_28 : decode cX6_agrees 28 = .ok (.iload_n 2, 1) := by decide +kernel
theorem dX6_agrees_29 : decode cX6_agrees 29 = .ok (.iaload, 1) := by decide +kernel
theorem dX6_agrees_30 : decode cX6_agrees 30 = .ok (.iconst 0, 1) := by decide +kernel
theorem dX6_agrees_31 : decode cX6_agrees 31 = .ok (.invokevirtual 99, 3) := by decide +kernel
theorem dX6_agrees_34 : decode cX6_agrees 34 = .ok (.aload_n 0, 1) := by decide +kernel
theorem dX6_agrees_35 : decode cX6_agrees 35 = .ok (.getfield 18, 3) := by decide +kernel
theorem dX6_agrees_38 : decode cX6_agrees 38 = .ok (.iload_n 2, 1) := by decide +kernel
theorem dX6_agrees_39 : decode cX6_agrees 39 = .ok (.iaload, 1) := by decide +kernel
theorem dX6_agrees_40 : decode cX6_agrees 40 = .ok (.if_icmp .eq 5, 3) := by decide +kernel
theorem dX6_agrees_43 : decode cX6_agrees 43 = .ok (.iconst 0, 1) := by decide +kernel
theorem dX6_agrees_44 : decode cX6_agrees 44 = .ok (.ireturn, 1) := by decide +kernel
theorem dX6_agrees_45 : decode cX6_agrees 45 = .ok (.iinc 2 1, 3) := by decide +kernel
theorem dX6_agrees_48 : decode cX6_agrees 48 = .ok (.goto (-46), 3) := by decide +kernel
theorem dX6_agrees_51 : decode cX6_agrees 51 = .ok (.iconst 1, 1) := by decide +kernel
theorem dX6_agrees_52 : decode cX6_agrees 52 = .ok (.ireturn, 1) := by decide +kernel
abbrev mX6_agrees : MI := (RX6, yX6_agrees, cX6_agrees, 3, some .boolean)
theorem cvX6_agrees : CV mX6_agrees 1 := ⟨⟨mw (i := 1098) (by decide +kernel), mw (i := 10) (by decide +kernel), ⟨by decide +kernel, by decide +kernel, by decide +kernel⟩, by decide⟩, mw (i := 1097) (by decide +kernel), mp2 (i := 30) 10 (by decide +kernel)⟩
def FX6_agrees (a0 : Nat) (p1 : Int32) : PP Bool := bd (it (fun (s1 : Int32) => (bd (gI a0 3) (fun x2 => if x2 ≤ s1 then pu (Sum.inr (Sum.inl ())) else bd (aI (rf a0 1) 6 s1) (fun x3 => if x3 = p1 then bd (aI (rf a0 0) 6 s1) (fun x5 => bd (FX4_weather (rf a0 7) x5 (0 : Int32)) (fun x6 => bd (aI (rf a0 2) 6 s1) (fun x7 => if x6 = x7 then lt (s1 + (1 : Int32)) (fun y8 => pu (Sum.inl y8)) else pu (Sum.inr (Sum.inr (())))))) else lt (s1 + (1 : Int32)) (fun y4 => pu (Sum.inl y4)))) : PP ((Int32) ⊕ ((Unit) ⊕ (Unit))))) FU (0 : Int32)) (Sum.elim (fun (v9 : Unit) => zb (1 : Int32)) (fun (v10 : Unit) => zb (0 : Int32)))
set_option maxHeartbeats 4000000 in
set_option maxRecDepth 100000 in
theorem SX6_agrees {l : Launch} {K : KK} {n : Nat} {hn : 270 ≤ n} (a0 : Nat) (p1 : Int32) (h0 : ob a0 6) : CT l K n 2 mX6_agrees [.ref (K.2.1 + a0), .int p1] enZ (FX6_agrees a0 p1) := by
  refine CT.of2 (lv2 := [(0, .ref (K.2.1 + a0)), (1, .int p1)]) (by decide) rfl hn (Nat.le_of_ble_eq_true rfl) rfl (rp_id ?_)
  unfold FX6_agrees
  refine rp_iconst (0 : Int32) dX6_agrees_0 (by decide) ?_
  refine rp_istore_n [(2, .int (0 : Int32)), (0, .ref (K.2.1 + a0)), (1, .int p1)] dX6_agrees_1 (by decide) rfl ?_
  refine rp_as ?_
  refine rp_join2 51 (fun v9 => []) (fun _ => []) 43 (fun v10 => []) (fun _ => []) (fun v9 => ?_) (fun v10 => ?_) (fun hX2_0 hX2_1 => ?_)
  · refine rp_iconst (1 : Int32) dX6_agrees_51 (by decide) ?_
    exact rp_zretb rfl dX6_agrees_52
  · refine rp_iconst (0 : Int32) dX6_agrees_43 (by decide) ?_
    exact rp_zretb rfl dX6_agrees_44
  refine rp_sub [1, 2, 0] rfl (rp_it (fun (s1 : Int32) => [(0, .ref (K.2.1 + a0)), (1, .int p1), (2, .int s1)]) (fun N2 ih2 s1 => ?_) FU (0 : Int32))
  refine rp_iload_n 2 dX6_agrees_2 rfl ?_
  refine rp_aload_n 0 dX6_agrees_3 rfl ?_
  refine rp_getI fi_X6_39 h0 rfl dX6_agrees_4 (fun x2 => ?_)
  refine rp_icmp_ge 51 dX6_agrees_7 (by decide) ?_ ?_
  · exact rp_sub [] rfl (rp_pu (hX2_0 ()))
  · refine rp_aload_n 0 dX6_agrees_10 rfl ?_
    refine rp_getR fi_X6_15 h0 rfl dX6_agrees_11 ?_
    refine rp_iload_n 2 dX6_agrees_14 rfl ?_
    refine rp_iald (tX6_1 h0) dX6_agrees_15 (fun x3 => ?_)
    refine rp_iload_n 1 dX6_agrees_16 rfl ?_
    refine rp_icmp_ne 45 dX6_agrees_17 (by decide) ?_ ?_
    · refine rp_iinc (fun y4 => [(2, .int y4), (0, .ref (K.2.1 + a0)), (1, .int p1)]) 2 dX6_agrees_45 rfl (by rfl) (by decide) (fun y4 => rfl) (fun y4 => ?_)
      refine rp_goto 2 dX6_agrees_48 (by decide) ?_
      exact rp_sub [1, 2, 0] rfl (ih2 y4)
    · refine rp_aload_n 0 dX6_agrees_20 rfl ?_
      refine rp_getR fi_X6_29 h0 rfl dX6_agrees_21 ?_
      refine rp_aload_n 0 dX6_agrees_24 rfl ?_
      refine rp_getR fi_X6_9 h0 rfl dX6_agrees_25 ?_
      refine rp_iload_n 2 dX6_agrees_28 rfl ?_
      refine rp_iald (tX6_0 h0) dX6_agrees_29 (fun x5 => ?_)
      refine rp_iconst (0 : Int32) dX6_agrees_30 (by decide) ?_
      refine rp_callVi [.int x5, .int (0 : Int32)] (SX4_weather (hn := hn) (rf a0 7) x5 (0 : Int32) (tX6_7 h0)) cvX4_weather (mw (i := 1099) (by decide +kernel)) (by omega) (tX6_7 h0) (by decide) rfl rfl rfl (Nat.le_of_ble_eq_true rfl) dX6_agrees_31 (fun x6 => ?_)
      refine rp_aload_n 0 dX6_agrees_34 rfl ?_
      refine rp_getR fi_X6_18 h0 rfl dX6_agrees_35 ?_
      refine rp_iload_n 2 dX6_agrees_38 rfl ?_
      refine rp_iald (tX6_2 h0) dX6_agrees_39 (fun x7 => ?_)
      refine rp_icmp_eq 45 dX6_agrees_40 (by decide) ?_ ?_
      · refine rp_iinc (fun y8 => [(2, .int y8), (0, .ref (K.2.1 + a0)), (1, .int p1)]) 2 dX6_agrees_45 rfl (by rfl) (by decide) (fun y8 => rfl) (fun y8 => ?_)
        refine rp_goto 2 dX6_agrees_48 (by decide) ?_
        exact rp_sub [1, 2, 0] rfl (ih2 y8)
      · exact rp_sub [] rfl (rp_pu (hX2_1 ()))

theorem dX6_comesTrue_0 : decode cX6_comesTrue 0 = .ok (.iload_n 1, 1) := by decide +kernel
theorem dX6_comesTrue_1 : decode cX6_comesTrue 1 = .ok (.istore_n 2, 1) := by decide +kernel
theorem dX6_comesTrue_2 : decode cX6_comesTrue 2 = .ok (.iconst 0, 1) := by decide +kernel
theorem dX6_comesTrue_3 : decode cX6_comesTrue 3 = .ok (.istore_n 3, 1) := by decide +kernel
theorem dX6_comesTrue_4 : decode cX6_comesTrue 4 = .ok (.iload_n 3, 1) := by decide +kernel
theorem dX6_comesTrue_5 : decode cX6_comesTrue 5 = .ok (.aload_n 0, 1) := by decide +kernel
theorem dX6_comesTrue_6 : decode cX6_comesTrue 6 = .ok (.getfield 39, 3) := by decide +kernel
theorem dX6_comesTrue_9 : decode cX6_comesTrue 9 = .ok (.if_icmp .ge 20, 3) := by decide +kernel
theorem dX6_comesTrue_12 : decode cX6_comesTrue 12 = .ok (.iload_n 2, 1) := by decide +kernel
theorem dX6_comesTrue_13 : decode cX6_comesTrue 13 = .ok (.aload_n 0, 1) := by decide +kernel
theorem dX6_comesTrue_14 : decode cX6_comesTrue 14 = .ok (.getfield 15, 3) := by decide +kernel
theorem dX6_comesTrue_17 : decode cX6_comesTrue 17 = .ok (.iload_n 3, 1) := by decide +kernel
theorem dX6_comesTrue_18 : decode cX6_comesTrue 18 = .ok (.iaload, 1) := by decide +kernel
theorem dX6_comesTrue_19 : decode cX6_comesTrue 19 = .ok (.invokestatic 90, 3) := by decide +kernel
theorem dX6_comesTrue_22 : decode cX6_comesTrue 22 = .ok (.istore_n 2, 1) := by decide +kernel
theorem dX6_comesTrue_23 : decode cX6_comesTrue 23 = .ok (.iinc 3 1, 3) := by decide +kernel
theorem dX6_comesTrue_26 : decode cX6_comesTrue 26 = .ok (.goto (-22), 3) := by decide +kernel
theorem dX6_comesTrue_29 : decode cX6_comesTrue 29 = .ok (.iconst 0, 1) := by decide +kernel
theorem dX6_comesTrue_30 : decode cX6_comesTrue 30 = .ok (.istore_n 3, 1) := by decide +kernel
theorem dX6_comesTrue_31 : decode cX6_comesTrue 31 = .ok (.iload_n 3, 1) := by decide +kernel
theorem dX6_comesTrue_32 : decode cX6_comesTrue 32 = .ok (.iload_n 2, 1) := by decide +kernel
theorem dX6_comesTrue_33 : decode cX6_comesTrue 33 = .ok (.if_icmp .gt 74, 3) := by decide +kernel
theorem dX6_comesTrue_36 : decode cX6_comesTrue 36 = .ok (.aload_n 0, 1) := by decide +kernel
theorem dX6_comesTrue_37 : decode cX6_comesTrue 37 = .ok (.iload_n 3, 1) := by decide +kernel
theorem dX6_comesTrue_38 : decode cX6_comesTrue 38 = .ok (.invokevirtual 96, 3) := by decide +kernel
theorem dX6_comesTrue_41 : decode cX6_comesTrue 41 = .ok (.ifCond .ne 5, 3) := by decide +kernel
theorem dX6_comesTrue_44 : decode cX6_comesTrue 44 = .ok (.iconst 0, 1) := by decide +kernel
theorem dX6_comesTrue_45 : decode cX6_comesTrue 45 = .ok (.ireturn, 1) := by decide +kernel
theorem dX6_comesTrue_46 : decode cX6_comesTrue 46 = .ok (.iconst 0, 1) := by decide +kernel
theorem dX6_comesTrue_47 : decode cX6_comesTrue 47 = .ok (.istore 4, 2) := by decide +kernel
theorem dX6_comesTrue_49 : decode cX6_comesTrue 49 = .ok (.iload_n 3, 1) := by decide +kernel
theorem dX6_comesTrue_50 : decode cX6_comesTrue 50 = .ok (.iload_n 1, 1) := by decide +kernel
theorem dX6_comesTrue_51 : decode cX6_comesTrue 51 = .ok (.if_icmp .ne 41, 3) := by decide +kernel
theorem dX6_comesTrue_54 : decode cX6_comesTrue 54 = .ok (.iload 4, 2) := by decide +kernel
theorem dX6_comesTrue_56 : decode cX6_comesTrue 56 = .ok (.aload_n 0, 1) := by decide +kernel
theorem dX6_comesTrue_57 : decode cX6_comesTrue 57 = .ok (.getfield 29, 3) := by decide +kernel
theorem dX6_comesTrue_60 : decode cX6_comesTrue 60 = .ok (.getfield 52, 3) := by decide +kernel
theorem dX6_comesTrue_63 : decode cX6_comesTrue 63 = .ok (.getfield 88, 3) := by decide +kernel
theorem dX6_comesTrue_66 : decode cX6_comesTrue 66 = .ok (.if_icmp .ge 26, 3) := by decide +kernel
theorem dX6_comesTrue_69 : decode cX6_comesTrue 69 = .ok (.aload_n 0, 1) := by decide +kernel
theorem dX6_comesTrue_70 : decode cX6_comesTrue 70 = .ok (.getfield 26, 3) := by decide +kernel
theorem dX6_comesTrue_73 : decode cX6_comesTrue 73 = .ok (.iload 4, 2) := by decide +kernel
theorem dX6_comesTrue_75 : decode cX6_comesTrue 75 = .ok (.aload_n 0, 1) := by decide +kernel
theorem dX6_comesTrue_76 : decode cX6_comesTrue 76 = .ok (.getfield 29, 3) := by decide +kernel
theorem dX6_comesTrue_79 : decode cX6_comesTrue 79 = .ok (.iload 4, 2) := by decide +kernel
theorem dX6_comesTrue_81 : decode cX6_comesTrue 81 = .ok (.iconst 0, 1) := by decide +kernel
theorem dX6_comesTrue_82 : decode cX6_comesTrue 82 = .ok (.invokevirtual 99, 3) := by decide +kernel
theorem dX6_comesTrue_85 : decode cX6_comesTrue 85 = .ok (.iastore, 1) := by decide +kernel
theorem dX6_comesTrue_86 : decode cX6_comesTrue 86 = .ok (.iinc 4 1, 3) := by decide +kernel
theorem dX6_comesTrue_89 : decode cX6_comesTrue 89 = .ok (.goto (-40), 3) := by decide +kernel
theorem dX6_comesTrue_92 : decode cX6_comesTrue 92 = .ok (.aload_n 0, 1) := by decide +kernel
theorem dX6_comesTrue_93 : decode cX6_comesTrue 93 = .ok (.getfield 29, 3) := by decide +kernel
theorem dX6_comesTrue_96 : decode cX6_comesTrue 96 = .ok (.iconst 1, 1) := by decide +kernel
theorem dX6_comesTrue_97 : decode cX6_comesTrue 97 = .ok (.invokevirtual 102, 3) := by decide +kernel
theorem dX6_comesTrue_100 : decode cX6_comesTrue 100 = .ok (.pop, 1) := by decide +kernel
theorem dX6_comesTrue_101 : decode cX6_comesTrue 101 = .ok (.iinc 3 1, 3) := by decide +kernel
theorem dX6_comesTrue_104 : decode cX6_comesTrue 104 = .ok (.goto (-73), 3) := by decide +kernel
theorem dX6_comesTrue_107 : decode cX6_comesTrue 107 = .ok (.iconst 1, 1) := by decide +kernel
theorem dX6_comesTrue_108 : decode cX6_comesTrue 108 = .ok (.ireturn, 1) := by decide +kernel
abbrev mX6_comesTrue : MI := (RX6, yX6_comesTrue, cX6_comesTrue, 5, some .boolean)
theorem cvX6_comesTrue : CV mX6_comesTrue 1 := ⟨⟨mw (i := 1093) (by decide +kernel), mw (i := 10) (by decide +kernel), ⟨by decide +kernel, by decide +kernel, by decide +kernel⟩, by decide⟩, mw (i := 1092) (by decide +kernel), mp2 (i := 29) 10 (by decide +kernel)⟩
def FX6_comesTrue (a0 : Nat) (p1 : Int32) : PP Bool := bd (it (fun (s1 : Int32 × Int32) => (bd (gI a0 3) (fun x2 => if x2 ≤ s1.2 then pu (Sum.inr s1.1) else bd (aI (rf a0 1) 6 s1.2) (fun x3 => lt ((if s1.1 < x3 then x3 else s1.1)) (fun y4 => lt (s1.2 + (1 : Int32)) (fun y5 => pu (Sum.inl (y4, y5)))))) : PP ((Int32 × Int32) ⊕ (Int32)))) FU (p1, (0 : Int32))) (fun (v6 : Int32) => bd (it (fun (s7 : Int32) => (if v6 < s7 then pu (Sum.inr (Sum.inl ())) else bd (FX6_agrees a0 s7) (fun x8 => if ((b2i x8)) = 0 then pu (Sum.inr (Sum.inr (()))) else bd (it (fun (s9 : Int32) => (if s7 = p1 then bd (gI (rf (rf a0 7) 0) 10) (fun x10 => if x10 ≤ s9 then pu (Sum.inr ()) else bd (FX4_weather (rf a0 7) s9 (0 : Int32)) (fun x11 => bd (uI (rf a0 9) 4 s9 x11) (fun (_ : Unit) => lt (s9 + (1 : Int32)) (fun y12 => pu (Sum.inl y12))))) else pu (Sum.inr ()) : PP ((Int32) ⊕ (Unit)))) FU (0 : Int32)) (fun (v13 : Unit) => bd (FX4_passHour (rf a0 7) (1 : Int32)) (fun x14 => lt (s7 + (1 : Int32)) (fun y15 => pu (Sum.inl y15))))) : PP ((Int32) ⊕ ((Unit) ⊕ (Unit))))) FU (0 : Int32)) (Sum.elim (fun (v16 : Unit) => zb (1 : Int32)) (fun (v17 : Unit) => zb (0 : Int32))))
set_option maxHeartbeats 4000000 in
set_option maxRecDepth 100000 in
theorem SX6_comesTrue {l : Launch} {K : KK} {n : Nat} {hn : 270 ≤ n} (a0 : Nat) (p1 : Int32) (h0 : ob a0 6) : CT l K n 3 mX6_comesTrue [.ref (K.2.1 + a0), .int p1] enZ (FX6_comesTrue a0 p1) := by
  refine CT.of2 (lv2 := [(0, .ref (K.2.1 + a0)), (1, .int p1)]) (by decide) rfl hn (Nat.le_of_ble_eq_true rfl) rfl (rp_id ?_)
  unfold FX6_comesTrue
  refine rp_iload_n 1 dX6_comesTrue_0 rfl ?_
  refine rp_istore_n [(2, .int p1), (0, .ref (K.2.1 + a0)), (1, .int p1)] dX6_comesTrue_1 (by decide) rfl ?_
  refine rp_iconst (0 : Int32) dX6_comesTrue_2 (by decide) ?_
  refine rp_istore_n [(3, .int (0 : Int32)), (2, .int p1), (0, .ref (K.2.1 + a0)), (1, .int p1)] dX6_comesTrue_3 (by decide) rfl ?_
  refine rp_as ?_
  refine rp_join 29 (fun v6 => [(0, .ref (K.2.1 + a0)), (1, .int p1), (2, .int v6)]) (fun _ => []) (fun v6 => ?_) (fun hX4_0 => ?_)
  · refine rp_iconst (0 : Int32) dX6_comesTrue_29 (by decide) ?_
    refine rp_istore_n [(3, .int (0 : Int32)), (0, .ref (K.2.1 + a0)), (1, .int p1), (2, .int v6)] dX6_comesTrue_30 (by decide) rfl ?_
    refine rp_as ?_
    refine rp_join2 107 (fun v16 => []) (fun _ => []) 44 (fun v17 => []) (fun _ => []) (fun v16 => ?_) (fun v17 => ?_) (fun hX31_0 hX31_1 => ?_)
    · refine rp_iconst (1 : Int32) dX6_comesTrue_107 (by decide) ?_
      exact rp_zretb rfl dX6_comesTrue_108
    · refine rp_iconst (0 : Int32) dX6_comesTrue_44 (by decide) ?_
      exact rp_zretb rfl dX6_comesTrue_45
    refine rp_sub [1, 2, 3, 0] rfl (rp_it (fun (s7 : Int32) => [(0, .ref (K.2.1 + a0)), (1, .int p1), (2, .int v6), (3, .int s7)]) (fun N31 ih31 s7 => ?_) FU (0 : Int32))
    refine rp_iload_n 3 dX6_comesTrue_31 rfl ?_
    refine rp_iload_n 2 dX6_comesTrue_32 rfl ?_
    refine rp_icmp_gt 107 dX6_comesTrue_33 (by decide) ?_ ?_
    · exact rp_sub [] rfl (rp_pu (hX31_0 ()))
    · refine rp_aload_n 0 dX6_comesTrue_36 rfl ?_
      refine rp_iload_n 3 dX6_comesTrue_37 rfl ?_
      refine rp_callVz [.int s7] (SX6_agrees (hn := hn) a0 s7 h0) cvX6_agrees (mw (i := 1095) (by decide +kernel)) (by omega) h0 (by decide) rfl rfl rfl (Nat.le_of_ble_eq_true rfl) dX6_comesTrue_38 (fun x8 => ?_)
      refine rp_if_ne 46 dX6_comesTrue_41 (by decide) ?_ ?_
      · refine rp_iconst (0 : Int32) dX6_comesTrue_46 (by decide) ?_
        refine rp_istore [(4, .int (0 : Int32)), (0, .ref (K.2.1 + a0)), (1, .int p1), (2, .int v6), (3, .int s7)] dX6_comesTrue_47 (by decide) rfl ?_
        refine rp_as ?_
        refine rp_join 92 (fun v13 => [(0, .ref (K.2.1 + a0)), (1, .int p1), (2, .int v6), (3, .int s7)]) (fun _ => []) (fun v13 => ?_) (fun hX49_0 => ?_)
        · refine rp_aload_n 0 dX6_comesTrue_92 rfl ?_
          refine rp_getR fi_X6_29 h0 rfl dX6_comesTrue_93 ?_
          refine rp_iconst (1 : Int32) dX6_comesTrue_96 (by decide) ?_
          refine rp_callVi [.int (1 : Int32)] (SX4_passHour (hn := hn) (rf a0 7) (1 : Int32) (tX6_7 h0)) cvX4_passHour (mw (i := 1100) (by decide +kernel)) (by omega) (tX6_7 h0) (by decide) rfl rfl rfl (Nat.le_of_ble_eq_true rfl) dX6_comesTrue_97 (fun x14 => ?_)
          refine rp_pop dX6_comesTrue_100 rfl ?_
          refine rp_iinc (fun y15 => [(3, .int y15), (0, .ref (K.2.1 + a0)), (1, .int p1), (2, .int v6)]) 3 dX6_comesTrue_101 rfl (by rfl) (by decide) (fun y15 => rfl) (fun y15 => ?_)
          refine rp_goto 31 dX6_comesTrue_104 (by decide) ?_
          exact rp_sub [1, 2, 3, 0] rfl (ih31 y15)
        refine rp_sub [1, 2, 3, 4, 0] rfl (rp_it (fun (s9 : Int32) => [(0, .ref (K.2.1 + a0)), (1, .int p1), (2, .int v6), (3, .int s7), (4, .int s9)]) (fun N49 ih49 s9 => ?_) FU (0 : Int32))
        refine rp_iload_n 3 dX6_comesTrue_49 rfl ?_
        refine rp_iload_n 1 dX6_comesTrue_50 rfl ?_
        refine rp_icmp_ne 92 dX6_comesTrue_51 (by decide) ?_ ?_
        · exact rp_sub [0, 1, 2, 3] rfl (rp_pu (hX49_0 ()))
        · refine rp_iload 4 dX6_comesTrue_54 rfl ?_
          refine rp_aload_n 0 dX6_comesTrue_56 rfl ?_
          refine rp_getR fi_X6_29 h0 rfl dX6_comesTrue_57 ?_
          refine rp_getR fi_X6_52 (tX6_7 h0) rfl dX6_comesTrue_60 ?_
          refine rp_getI fi_X6_88 (tX4_0 (tX6_7 h0)) rfl dX6_comesTrue_63 (fun x10 => ?_)
          refine rp_icmp_ge 92 dX6_comesTrue_66 (by decide) ?_ ?_
          · exact rp_sub [0, 1, 2, 3] rfl (rp_pu (hX49_0 ()))
          · refine rp_aload_n 0 dX6_comesTrue_69 rfl ?_
            refine rp_getR fi_X6_26 h0 rfl dX6_comesTrue_70 ?_
            refine rp_iload 4 dX6_comesTrue_73 rfl ?_
            refine rp_aload_n 0 dX6_comesTrue_75 rfl ?_
            refine rp_getR fi_X6_29 h0 rfl dX6_comesTrue_76 ?_
            refine rp_iload 4 dX6_comesTrue_79 rfl ?_
            refine rp_iconst (0 : Int32) dX6_comesTrue_81 (by decide) ?_
            refine rp_callVi [.int s9, .int (0 : Int32)] (SX4_weather (hn := hn) (rf a0 7) s9 (0 : Int32) (tX6_7 h0)) cvX4_weather (mw (i := 1099) (by decide +kernel)) (by omega) (tX6_7 h0) (by decide) rfl rfl rfl (Nat.le_of_ble_eq_true rfl) dX6_comesTrue_82 (fun x11 => ?_)
            refine rp_iast (tX6_9 h0) dX6_comesTrue_85 ?_
            refine rp_iinc (fun y12 => [(4, .int y12), (0, .ref (K.2.1 + a0)), (1, .int p1), (2, .int v6), (3, .int s7)]) 4 dX6_comesTrue_86 rfl (by rfl) (by decide) (fun y12 => rfl) (fun y12 => ?_)
            refine rp_goto 49 dX6_comesTrue_89 (by decide) ?_
            exact rp_sub [1, 2, 3, 4, 0] rfl (ih49 y12)
      · exact rp_sub [] rfl (rp_pu (hX31_1 ()))
  refine rp_sub [2, 3, 1, 0] rfl (rp_it (fun (s1 : Int32 × Int32) => [(0, .ref (K.2.1 + a0)), (1, .int p1), (2, .int s1.1), (3, .int s1.2)]) (fun N4 ih4 s1 => ?_) FU (p1, (0 : Int32)))
  refine rp_iload_n 3 dX6_comesTrue_4 rfl ?_
  refine rp_aload_n 0 dX6_comesTrue_5 rfl ?_
  refine rp_getI fi_X6_39 h0 rfl dX6_comesTrue_6 (fun x2 => ?_)
  refine rp_icmp_ge 29 dX6_comesTrue_9 (by decide) ?_ ?_
  · exact rp_sub [0, 1, 2] rfl (rp_pu (hX4_0 s1.1))
  · refine rp_iload_n 2 dX6_comesTrue_12 rfl ?_
    refine rp_aload_n 0 dX6_comesTrue_13 rfl ?_
    refine rp_getR fi_X6_15 h0 rfl dX6_comesTrue_14 ?_
    refine rp_iload_n 3 dX6_comesTrue_17 rfl ?_
    refine rp_iald (tX6_1 h0) dX6_comesTrue_18 (fun x3 => ?_)
    refine rp_mmax (mw (i := 1094) (by decide +kernel)) (by omega) (Nat.le_of_ble_eq_true rfl) dX6_comesTrue_19 ?_
    refine rp_lti (fun y4 => ?_)
    refine rp_istore_n [(2, .int y4), (0, .ref (K.2.1 + a0)), (1, .int p1), (3, .int s1.2)] dX6_comesTrue_22 (by decide) rfl ?_
    refine rp_iinc (fun y5 => [(3, .int y5), (2, .int y4), (0, .ref (K.2.1 + a0)), (1, .int p1)]) 3 dX6_comesTrue_23 rfl (by rfl) (by decide) (fun y5 => rfl) (fun y5 => ?_)
    refine rp_goto 4 dX6_comesTrue_26 (by decide) ?_
    exact rp_sub [2, 3, 1, 0] rfl (ih4 (y4, y5))

theorem dX6_tryPair_0 : decode cX6_tryPair 0 = .ok (.aload_n 0, 1) := by decide +kernel
theorem dX6_tryPair_1 : decode cX6_tryPair 1 = .ok (.iload_n 3, 1) := by decide +kernel
theorem dX6_tryPair_2 : decode cX6_tryPair 2 = .ok (.invokevirtual 85, 3) := by decide +kernel
theorem dX6_tryPair_5 : decode cX6_tryPair 5 = .ok (.ifCond .ne 4, 3) := by decide +kernel
theorem dX6_tryPair_8 : decode cX6_tryPair 8 = .ok (.return_, 1) := by decide +kernel
theorem dX6_tryPair_9 : decode cX6_tryPair 9 = .ok (.aload_n 0, 1) := by decide +kernel
theorem dX6_tryPair_10 : decode cX6_tryPair 10 = .ok (.dup, 1) := by decide +kernel
theorem dX6_tryPair_11 : decode cX6_tryPair 11 = .ok (.getfield 43, 3) := by decide +kernel
theorem dX6_tryPair_14 : decode cX6_tryPair 14 = .ok (.iconst 1, 1) := by decide +kernel
theorem dX6_tryPair_15 : decode cX6_tryPair 15 = .ok (.iadd, 1) := by decide +kernel
theorem dX6_tryPair_16 : decode cX6_tryPair 16 = .ok (.putfield 43, 3) := by decide +kernel
theorem dX6_tryPair_19 : decode cX6_tryPair 19 = .ok (.aload_n 0, 1) := by decide +kernel
theorem dX6_tryPair_20 : decode cX6_tryPair 20 = .ok (.dup, 1) := by decide +kernel
theorem dX6_tryPair_21 : decode cX6_tryPair 21 = .ok (.getfield 46, 3) := by decide +kernel
theorem dX6_tryPair_24 : decode cX6_tryPair 24 = .ok (.iconst 1, 1) := by decide +kernel
theorem dX6_tryPair_25 : decode cX6_tryPair 25 = .ok (.iload_n 1, 1) := by decide +kernel
theorem dX6_tryPair_26 : decode cX6_tryPair 26 = .ok (.ishl, 1) := by decide +kernel
theorem dX6_tryPair_27 : decode cX6_tryPair 27 = .ok (.ior, 1) := by decide +kernel
theorem dX6_tryPair_28 : decode cX6_tryPair 28 = .ok (.putfield 46, 3) := by decide +kernel
theorem dX6_tryPair_31 : decode cX6_tryPair 31 = .ok (.aload_n 0, 1) := by decide +kernel
theorem dX6_tryPair_32 : decode cX6_tryPair 32 = .ok (.dup, 1) := by decide +kernel
theorem dX6_tryPair_33 : decode cX6_tryPair 33 = .ok (.getfield 49, 3) := by decide +kernel
theorem dX6_tryPair_36 : decode cX6_tryPair 36 = .ok (.iconst 1, 1) := by decide +kernel
theorem dX6_tryPair_37 : decode cX6_tryPair 37 = .ok (.iload_n 2, 1) := by decide +kernel
theorem dX6_tryPair_38 : decode cX6_tryPair 38 = .ok (.ishl, 1) := by decide +kernel
theorem dX6_tryPair_39 : decode cX6_tryPair 39 = .ok (.ior, 1) := by decide +kernel
theorem dX6_tryPair_40 : decode cX6_tryPair 40 = .ok (.putfield 49, 3) := by decide +kernel
theorem dX6_tryPair_43 : decode cX6_tryPair 43 = .ok (.iconst 0, 1) := by decide +kernel
theorem dX6_tryPair_44 : decode cX6_tryPair 44 = .ok (.istore 4, 2) := by decide +kernel
theorem dX6_tryPair_46 : decode cX6_tryPair 46 = .ok (.iload 4, 2) := by decide +kernel
theorem dX6_tryPair_48 : decode cX6_tryPair 48 = .ok (.aload_n 0, 1) := by decide +kernel
theorem dX6_tryPair_49 : decode cX6_tryPair 49 = .ok (.getfield 29, 3) := by decide +kernel
theorem dX6_tryPair_52 : decode cX6_tryPair 52 = .ok (.getfield 52, 3) := by decide +kernel
theorem dX6_tryPair_55 : decode cX6_tryPair 55 = .ok (.getfield 88, 3) := by decide +kernel
theorem dX6_tryPair_58 : decode cX6_tryPair 58 = .ok (.if_icmp .ge 30, 3) := by decide +kernel
theorem dX6_tryPair_61 : decode cX6_tryPair 61 = .ok (.aload_n 0, 1) := by decide +kernel
theorem dX6_tryPair_62 : decode cX6_tryPair 62 = .ok (.getfield 23, 3) := by decide +kernel
theorem dX6_tryPair_65 : decode cX6_tryPair 65 = .ok (.iload 4, 2) := by decide +kernel
theorem dX6_tryPair_67 : decode cX6_tryPair 67 = .ok (.aaload, 1) := by decide +kernel
theorem dX6_tryPair_68 : decode cX6_tryPair 68 = .ok (.aload_n 0, 1) := by decide +kernel
theorem dX6_tryPair_69 : decode cX6_tryPair 69 = .ok (.getfield 26, 3) := by decide +kernel
theorem dX6_tryPair_72 : decode cX6_tryPair 72 = .ok (.iload 4, 2) := by decide +kernel
theorem dX6_tryPair_74 : decode cX6_tryPair 74 = .ok (.iaload, 1) := by decide +kernel
theorem dX6_tryPair_75 : decode cX6_tryPair 75 = .ok (.iconst 1, 1) := by decide +kernel
theorem dX6_tryPair_76 : decode cX6_tryPair 76 = .ok (.iadd, 1) := by decide +kernel
theorem dX6_tryPair_77 : decode cX6_tryPair 77 = .ok (.dup2, 1) := by decide +kernel
theorem dX6_tryPair_78 : decode cX6_tryPair 78 = .ok (.iaload, 1) := by decide +kernel
theorem dX6_tryPair_79 : decode cX6_tryPair 79 = .ok (.iconst 1, 1) := by decide +kernel
theorem dX6_tryPair_80 : decode cX6_tryPair 80 = .ok (.iadd, 1) := by decide +kernel
theorem dX6_tryPair_81 : decode cX6_tryPair 81 = .ok (.iastore, 1) := by decide +kernel
theorem dX6_tryPair_82 : decode cX6_tryPair 82 = .ok (.iinc 4 1, 3) := by decide +kernel
theorem dX6_tryPair_85 : decode cX6_tryPair 85 = .ok (.goto (-39), 3) := by decide +kernel
theorem dX6_tryPair_88 : decode cX6_tryPair 88 = .ok (.return_, 1) := by decide +kernel
abbrev mX6_tryPair : MI := (RX6, yX6_tryPair, cX6_tryPair, 5, none)
theorem cvX6_tryPair : CV mX6_tryPair 3 := ⟨⟨mw (i := 1089) (by decide +kernel), mw (i := 10) (by decide +kernel), ⟨by decide +kernel, by decide +kernel, by decide +kernel⟩, by decide⟩, mw (i := 1088) (by decide +kernel), mp2 (i := 28) 10 (by decide +kernel)⟩
def FX6_tryPair (a0 : Nat) (p1 : Int32) (p2 : Int32) (p3 : Int32) : PP Unit := bd (FX6_comesTrue a0 p3) (fun x1 => if ((b2i x1)) = 0 then pu () else bd (gI a0 4) (fun x2 => bd (sI a0 4 (x2 + (1 : Int32))) (fun (_ : Unit) => bd (gI a0 5) (fun x3 => bd (sI a0 5 (x3 ||| ((1 : Int32) <<< (p1 &&& 31)))) (fun (_ : Unit) => bd (gI a0 6) (fun x4 => bd (sI a0 6 (x4 ||| ((1 : Int32) <<< (p2 &&& 31)))) (fun (_ : Unit) => bd (it (fun (s5 : Int32) => (bd (gI (rf (rf a0 7) 0) 10) (fun x6 => if x6 ≤ s5 then pu (Sum.inr ()) else bd (gd (ib s5 4 = true)) (fun (_ : Unit) => bd (aI (rf a0 9) 4 s5) (fun x8 => bd (aI (rf (rf a0 8) s5.toNatClampNeg) 5 (x8 + (1 : Int32))) (fun x9 => bd (uI (rf (rf a0 8) s5.toNatClampNeg) 5 (x8 + (1 : Int32)) (x9 + (1 : Int32))) (fun (_ : Unit) => lt (s5 + (1 : Int32)) (fun y10 => pu (Sum.inl y10))))))) : PP ((Int32) ⊕ (Unit)))) FU (0 : Int32)) (fun (v11 : Unit) => pu ()))))))))
set_option maxHeartbeats 4000000 in
set_option maxRecDepth 100000 in
theorem SX6_tryPair {l : Launch} {K : KK} {n : Nat} {hn : 270 ≤ n} (a0 : Nat) (p1 : Int32) (p2 : Int32) (p3 : Int32) (h0 : ob a0 6) : CT l K n 4 mX6_tryPair [.ref (K.2.1 + a0), .int p1, .int p2, .int p3] enU (FX6_tryPair a0 p1 p2 p3) := by
  refine CT.of2 (lv2 := [(0, .ref (K.2.1 + a0)), (1, .int p1), (2, .int p2), (3, .int p3)]) (by decide) rfl hn (Nat.le_of_ble_eq_true rfl) rfl (rp_id ?_)
  unfold FX6_tryPair
  refine rp_aload_n 0 dX6_tryPair_0 rfl ?_
  refine rp_iload_n 3 dX6_tryPair_1 rfl ?_
  refine rp_callVz [.int p3] (SX6_comesTrue (hn := hn) a0 p3 h0) cvX6_comesTrue (mw (i := 1090) (by decide +kernel)) (by omega) h0 (by decide) rfl rfl rfl (Nat.le_of_ble_eq_true rfl) dX6_tryPair_2 (fun x1 => ?_)
  refine rp_if_ne 9 dX6_tryPair_5 (by decide) ?_ ?_
  · refine rp_aload_n 0 dX6_tryPair_9 rfl ?_
    refine rp_dup dX6_tryPair_10 rfl ?_
    refine rp_getI fi_X6_43 h0 rfl dX6_tryPair_11 (fun x2 => ?_)
    refine rp_iconst (1 : Int32) dX6_tryPair_14 (by decide) ?_
    refine rp_iadd dX6_tryPair_15 ?_
    refine rp_putI fi_X6_43 fp_X6_4 h0 rfl dX6_tryPair_16 ?_
    refine rp_aload_n 0 dX6_tryPair_19 rfl ?_
    refine rp_dup dX6_tryPair_20 rfl ?_
    refine rp_getI fi_X6_46 h0 rfl dX6_tryPair_21 (fun x3 => ?_)
    refine rp_iconst (1 : Int32) dX6_tryPair_24 (by decide) ?_
    refine rp_iload_n 1 dX6_tryPair_25 rfl ?_
    refine rp_ishl dX6_tryPair_26 ?_
    refine rp_ior dX6_tryPair_27 ?_
    refine rp_putI fi_X6_46 fp_X6_5 h0 rfl dX6_tryPair_28 ?_
    refine rp_aload_n 0 dX6_tryPair_31 rfl ?_
    refine rp_dup dX6_tryPair_32 rfl ?_
    refine rp_getI fi_X6_49 h0 rfl dX6_tryPair_33 (fun x4 => ?_)
    refine rp_iconst (1 : Int32) dX6_tryPair_36 (by decide) ?_
    refine rp_iload_n 2 dX6_tryPair_37 rfl ?_
    refine rp_ishl dX6_tryPair_38 ?_
    refine rp_ior dX6_tryPair_39 ?_
    refine rp_putI fi_X6_49 fp_X6_6 h0 rfl dX6_tryPair_40 ?_
    refine rp_iconst (0 : Int32) dX6_tryPair_43 (by decide) ?_
    refine rp_istore [(4, .int (0 : Int32)), (0, .ref (K.2.1 + a0)), (1, .int p1), (2, .int p2), (3, .int p3)] dX6_tryPair_44 (by decide) rfl ?_
    refine rp_as ?_
    refine rp_join 88 (fun v11 => []) (fun _ => []) (fun v11 => ?_) (fun hX46_0 => ?_)
    · exact rp_pu (rp_vret rfl dX6_tryPair_88)
    refine rp_sub [1, 0] rfl (rp_it (fun (s5 : Int32) => [(0, .ref (K.2.1 + a0)), (4, .int s5)]) (fun N46 ih46 s5 => ?_) FU (0 : Int32))
    refine rp_iload 1 dX6_tryPair_46 rfl ?_
    refine rp_aload_n 0 dX6_tryPair_48 rfl ?_
    refine rp_getR fi_X6_29 h0 rfl dX6_tryPair_49 ?_
    refine rp_getR fi_X6_52 (tX6_7 h0) rfl dX6_tryPair_52 ?_
    refine rp_getI fi_X6_88 (tX4_0 (tX6_7 h0)) rfl dX6_tryPair_55 (fun x6 => ?_)
    refine rp_icmp_ge 88 dX6_tryPair_58 (by decide) ?_ ?_
    · exact rp_sub [] rfl (rp_pu (hX46_0 ()))
    · refine rp_aload_n 0 dX6_tryPair_61 rfl ?_
      refine rp_getR fi_X6_23 h0 rfl dX6_tryPair_62 ?_
      refine rp_iload 1 dX6_tryPair_65 rfl ?_
      refine rp_aald6 (tX6_8 h0) dX6_tryPair_67 (fun hb7 => ?_)
      refine rp_aload_n 0 dX6_tryPair_68 rfl ?_
      refine rp_getR fi_X6_26 h0 rfl dX6_tryPair_69 ?_
      refine rp_iload 1 dX6_tryPair_72 rfl ?_
      refine rp_iald (tX6_9 h0) dX6_tryPair_74 (fun x8 => ?_)
      refine rp_iconst (1 : Int32) dX6_tryPair_75 (by decide) ?_
      refine rp_iadd dX6_tryPair_76 ?_
      refine rp_dup2 dX6_tryPair_77 rfl rfl ?_
      refine rp_iald (arr6 (tX6_8 h0) hb7) dX6_tryPair_78 (fun x9 => ?_)
      refine rp_iconst (1 : Int32) dX6_tryPair_79 (by decide) ?_
      refine rp_iadd dX6_tryPair_80 ?_
      refine rp_iast (arr6 (tX6_8 h0) hb7) dX6_tryPair_81 ?_
      refine rp_iinc (fun y10 => [(4, .int y10), (0, .ref (K.2.1 + a0))]) 1 dX6_tryPair_82 rfl (by rfl) (by decide) (fun y10 => rfl) (fun y10 => ?_)
      refine rp_goto 46 dX6_tryPair_85 (by decide) ?_
      exact rp_sub [1, 0] rfl (ih46 y10)
  · exact rp_pu (rp_vret rfl dX6_tryPair_8)

theorem dX6_findPairs_0 : decode cX6_findPairs 0 = .ok (.aload_n 0, 1) := by decide +kernel
theorem dX6_findPairs_1 : decode cX6_findPairs 1 = .ok (.iconst 0, 1) := by decide +kernel
theorem dX6_findPairs_2 : decode cX6_findPairs 2 = .ok (.putfield 43, 3) := by decide +kernel
theorem dX6_findPairs_5 : decode cX6_findPairs 5 = .ok (.aload_n 0, 1) := by decide +kernel
theorem dX6_findPairs_6 : decode cX6_findPairs 6 = .ok (.iconst 0, 1) := by decide +kernel
theorem dX6_findPairs_7 : decode cX6_findPairs 7 = .ok (.putfield 46, 3) := by decide +kernel
theorem dX6_findPairs_10 : decode cX6_findPairs 10 = .ok (.aload_n 0, 1) := by decide +kernel
theorem dX6_findPairs_11 : decode cX6_findPairs 11 = .ok (.iconst 0, 1) := by decide +kernel
theorem dX6_findPairs_12 : decode cX6_findPairs 12 = .ok (.putfield 49, 3) := by decide +kernel
theorem dX6_findPairs_15 : decode cX6_findPairs 15 = .ok (.iconst 0, 1) := by decide +kernel
theorem dX6_findPairs_16 : decode cX6_findPairs 16 = .ok (.istore_n 3, 1) := by decide +kernel
theorem dX6_findPairs_17 : decode cX6_findPairs 17 = .ok (.iload_n 3, 1) := by decide +kernel
theorem dX6_findPairs_18 : decode cX6_findPairs 18 = .ok (.iconst 4, 1) := by decide +kernel
theorem dX6_findPairs_19 : decode cX6_findPairs 19 = .ok (.if_icmp .ge 34, 3) := by decide +kernel
theorem dX6_findPairs_22 : decode cX6_findPairs 22 = .ok (.iconst 0, 1) := by decide +kernel
theorem dX6_findPairs_23 : decode cX6_findPairs 23 = .ok (.istore 4, 2) := by decide +kernel
theorem dX6_findPairs_25 : decode cX6_findPairs 25 = .ok (.iload 4, 2) := by decide +kernel
theorem dX6_findPairs_27 : decode cX6_findPairs 27 = .ok (.iconst 4, 1) := by decide +kernel
theorem dX6_findPairs_28 : decode cX6_findPairs 28 = .ok (.if_icmp .gt 19, 3) := by decide +kernel
theorem dX6_findPairs_31 : decode cX6_findPairs 31 = .ok (.aload_n 0, 1) := by decide +kernel
theorem dX6_findPairs_32 : decode cX6_findPairs 32 = .ok (.getfield 23, 3) := by decide +kernel
theorem dX6_findPairs_35 : decode cX6_findPairs 35 = .ok (.iload_n 3, 1) := by decide +kernel
theorem dX6_findPairs_36 : decode cX6_findPairs 36 = .ok (.aaload, 1) := by decide +kernel
theorem dX6_findPairs_37 : decode cX6_findPairs 37 = .ok (.iload 4, 2) := by decide +kernel
theorem dX6_findPairs_39 : decode cX6_findPairs 39 = .ok (.iconst 0, 1) := by decide +kernel
theorem dX6_findPairs_40 : decode cX6_findPairs 40 = .ok (.iastore, 1) := by decide +kernel
theorem dX6_findPairs_41 : decode cX6_findPairs 41 = .ok (.iinc 4 1, 3) := by decide +kernel
theorem dX6_findPairs_44 : decode cX6_findPairs 44 = .ok (.goto (-19), 3) := by decide +kernel
theorem dX6_findPairs_47 : decode cX6_findPairs 47 = .ok (.iinc 3 1, 3) := by decide +kernel
theorem dX6_findPairs_50 : decode cX6_findPairs 50 = .ok (.goto (-33), 3) := by decide +kernel
theorem dX6_findPairs_53 : decode cX6_findPairs 53 = .ok (.iconst 0, 1) := by decide +kernel
theorem dX6_findPairs_54 : decode cX6_findPairs 54 = .ok (.istore_n 3, 1) := by decide +kernel
theorem dX6_findPairs_55 : decode cX6_findPairs 55 = .ok (.iload_n 3, 1) := by decide +kernel
theorem dX6_findPairs_56 : decode cX6_findPairs 56 = .ok (.aload_n 1, 1) := by decide +kernel
theorem dX6_findPairs_57 : decode cX6_findPairs 57 = .ok (.getfield 52, 3) := by decide +kernel
theorem dX6_findPairs_60 : decode cX6_findPairs 60 = .ok (.getfield 58, 3) := by decide +kernel
theorem dX6_findPairs_63 : decode cX6_findPairs 63 = .ok (.if_icmp .ge 74, 3) := by decide +kernel
theorem dX6_findPairs_66 : decode cX6_findPairs 66 = .ok (.iconst 0, 1) := by decide +kernel
theorem dX6_findPairs_67 : decode cX6_findPairs 67 = .ok (.istore 4, 2) := by decide +kernel
theorem dX6_findPairs_69 : decode cX6_findPairs 69 = .ok (.aload_n 1, 1) := by decide +kernel
theorem dX6_findPairs_70 : decode cX6_findPairs 70 = .ok (.iload_n 3, 1) := by decide +kernel
theorem dX6_findPairs_71 : decode cX6_findPairs 71 = .ok (.invokevirtual 63, 3) := by decide +kernel
theorem dX6_findPairs_74 : decode cX6_findPairs 74 = .ok (.ifCond .eq 57, 3) := by decide +kernel
theorem dX6_findPairs_77 : decode cX6_findPairs 77 = .ok (.iload 4, 2) := by decide +kernel
theorem dX6_findPairs_79 : decode cX6_findPairs 79 = .ok (.aload_n 1, 1) := by decide +kernel
theorem dX6_findPairs_80 : decode cX6_findPairs 80 = .ok (.getfield 52, 3) := by decide +kernel
theorem dX6_findPairs_83 : decode cX6_findPairs 83 = .ok (.getfield 67, 3) := by decide +kernel
theorem dX6_findPairs_86 : decode cX6_findPairs 86 = .ok (.if_icmp .ge 45, 3) := by decide +kernel
theorem dX6_findPairs_89 : decode cX6_findPairs 89 = .ok (.aload_n 1, 1) := by decide +kernel
theorem dX6_findPairs_90 : decode cX6_findPairs 90 = .ok (.iload 4, 2) := by decide +kernel
theorem dX6_findPairs_92 : decode cX6_findPairs 92 = .ok (.invokevirtual 70, 3) := by decide +kernel
theorem dX6_findPairs_95 : decode cX6_findPairs 95 = .ok (.ifCond .le 30, 3) := by decide +kernel
theorem dX6_findPairs_98 : decode cX6_findPairs 98 = .ok (.aload_n 0, 1) := by decide +kernel
theorem dX6_findPairs_99 : decode cX6_findPairs 99 = .ok (.getfield 29, 3) := by decide +kernel
theorem dX6_findPairs_102 : decode cX6_findPairs 102 = .ok (.aload_n 1, 1) := by decide +kernel
theorem dX6_findPairs_103 : decode cX6_findPairs 103 = .ok (.invokevirtual 74, 3) := by decide +kernel
theorem dX6_findPairs_106 : decode cX6_findPairs 106 = .ok (.aload_n 0, 1) := by decide +kernel
theorem dX6_findPairs_107 : decode cX6_findPairs 107 = .ok (.getfield 29, 3) := by decide +kernel
theorem dX6_findPairs_110 : decode cX6_findPairs 110 = .ok (.iload_n 3, 1) := by decide +kernel
theorem dX6_findPairs_111 : decode cX6_findPairs 111 = .ok (.iload 4, 2) := by decide +kernel
theorem dX6_findPairs_113 : decode cX6_findPairs 113 = .ok (.iconst 1, 1) := by decide +kernel
theorem dX6_findPairs_114 : decode cX6_findPairs 114 = .ok (.invokevirtual 78, 3) := by decide +kernel
theorem dX6_findPairs_117 : decode cX6_findPairs 117 = .ok (.aload_n 0, 1) := by decide +kernel
theorem dX6_findPairs_118 : decode cX6_findPairs 118 = .ok (.iload_n 3, 1) := by decide +kernel
theorem dX6_findPairs_119 : decode cX6_findPairs 119 = .ok (.iload 4, 2) := by decide +kernel
theorem dX6_findPairs_121 : decode cX6_findPairs 121 = .ok (.iload_n 2, 1) := by decide +kernel
theorem dX6_findPairs_122 : decode cX6_findPairs 122 = .ok (.invokevirtual 82, 3) := by decide +kernel
theorem dX6_findPairs_125 : decode cX6_findPairs 125 = .ok (.iinc 4 1, 3) := by decide +kernel
theorem dX6_findPairs_128 : decode cX6_findPairs 128 = .ok (.goto (-59), 3) := by decide +kernel
theorem dX6_findPairs_131 : decode cX6_findPairs 131 = .ok (.iinc 3 1, 3) := by decide +kernel
theorem dX6_findPairs_134 : decode cX6_findPairs 134 = .ok (.goto (-79), 3) := by decide +kernel
theorem dX6_findPairs_137 : decode cX6_findPairs 137 = .ok (.return_, 1) := by decide +kernel
abbrev mX6_findPairs : MI := (RX6, yX6_findPairs, cX6_findPairs, 5, none)
theorem cvX6_findPairs : CV mX6_findPairs 2 := ⟨⟨mw (i := 1081) (by decide +kernel), mw (i := 10) (by decide +kernel), ⟨by decide +kernel, by decide +kernel, by decide +kernel⟩, by decide⟩, mw (i := 1079) (by decide +kernel), mw (i := 1080) (by decide +kernel)⟩
def FX6_findPairs (a0 : Nat) (p1 : Nat) (p2 : Int32) : PP Unit := bd (sI a0 4 (0 : Int32)) (fun (_ : Unit) => bd (sI a0 5 (0 : Int32)) (fun (_ : Unit) => bd (sI a0 6 (0 : Int32)) (fun (_ : Unit) => bd (it (fun (s1 : Int32) => (if (4 : Int32) ≤ s1 then pu (Sum.inr ()) else bd (it (fun (s2 : Int32) => (if (4 : Int32) < s2 then pu (Sum.inr ()) else bd (gd (ib s1 4 = true)) (fun (_ : Unit) => bd (uI (rf (rf a0 8) s1.toNatClampNeg) 5 s2 (0 : Int32)) (fun (_ : Unit) => lt (s2 + (1 : Int32)) (fun y4 => pu (Sum.inl y4)))) : PP ((Int32) ⊕ (Unit)))) FU (0 : Int32)) (fun (v5 : Unit) => lt (s1 + (1 : Int32)) (fun y6 => pu (Sum.inl y6))) : PP ((Int32) ⊕ (Unit)))) FU (0 : Int32)) (fun (v7 : Unit) => bd (it (fun (s8 : Int32) => (bd (gI (rf p1 0) 11) (fun x9 => if x9 ≤ s8 then pu (Sum.inr ()) else bd (it (fun (s10 : Int32) => (bd (FX4_lies p1 s8) (fun x11 => if ((b2i x11)) = 0 then pu (Sum.inr ()) else bd (gI (rf p1 0) 9) (fun x12 => if x12 ≤ s10 then pu (Sum.inr ()) else bd (FX4_freeOn p1 s10) (fun x13 => bd (if x13 ≤ 0 then pu () else bd (FX4_copyFrom (rf a0 7) p1) (fun (_ : Unit) => bd (FX4_putUp (rf a0 7) s8 s10 (1 : Int32)) (fun (_ : Unit) => bd (FX6_tryPair a0 s8 s10 p2) (fun (_ : Unit) => pu ()))) : PP (Unit)) (fun (v17 : Unit) => lt (s10 + (1 : Int32)) (fun y18 => pu (Sum.inl y18)))))) : PP ((Int32) ⊕ (Unit)))) FU (0 : Int32)) (fun (v19 : Unit) => lt (s8 + (1 : Int32)) (fun y20 => pu (Sum.inl y20)))) : PP ((Int32) ⊕ (Unit)))) FU (0 : Int32)) (fun (v21 : Unit) => pu ())))))
set_option maxHeartbeats 4000000 in
set_option maxRecDepth 100000 in
theorem SX6_findPairs {l : Launch} {K : KK} {n : Nat} {hn : 270 ≤ n} (a0 : Nat) (p1 : Nat) (p2 : Int32) (h0 : ob a0 6) (h_p1 : ob p1 4) : CT l K n 5 mX6_findPairs [.ref (K.2.1 + a0), .ref (K.2.1 + p1), .int p2] enU (FX6_findPairs a0 p1 p2) := by
  refine CT.of2 (lv2 := [(0, .ref (K.2.1 + a0)), (1, .ref (K.2.1 + p1)), (2, .int p2)]) (by decide) rfl hn (Nat.le_of_ble_eq_true rfl) rfl (rp_id ?_)
  unfold FX6_findPairs
  refine rp_aload_n 0 dX6_findPairs_0 rfl ?_
  refine rp_iconst (0 : Int32) dX6_findPairs_1 (by decide) ?_
  refine rp_putI fi_X6_43 fp_X6_4 h0 rfl dX6_findPairs_2 ?_
  refine rp_aload_n 0 dX6_findPairs_5 rfl ?_
  refine rp_iconst (0 : Int32) dX6_findPairs_6 (by decide) ?_
  refine rp_putI fi_X6_46 fp_X6_5 h0 rfl dX6_findPairs_7 ?_
  refine rp_aload_n 0 dX6_findPairs_10 rfl ?_
  refine rp_iconst (0 : Int32) dX6_findPairs_11 (by decide) ?_
  refine rp_putI fi_X6_49 fp_X6_6 h0 rfl dX6_findPairs_12 ?_
  refine rp_iconst (0 : Int32) dX6_findPairs_15 (by decide) ?_
  refine rp_istore_n [(3, .int (0 : Int32)), (0, .ref (K.2.1 + a0)), (1, .ref (K.2.1 + p1)), (2, .int p2)] dX6_findPairs_16 (by decide) rfl ?_
  refine rp_as ?_
  refine rp_join 53 (fun v7 => [(0, .ref (K.2.1 + a0)), (1, .ref (K.2.1 + p1)), (2, .int p2)]) (fun _ => []) (fun v7 => ?_) (fun hX17_0 => ?_)
  · refine rp_iconst (0 : Int32) dX6_findPairs_53 (by decide) ?_
    refine rp_istore_n [(3, .int (0 : Int32)), (0, .ref (K.2.1 + a0)), (1, .ref (K.2.1 + p1)), (2, .int p2)] dX6_findPairs_54 (by decide) rfl ?_
    refine rp_as ?_
    refine rp_join 137 (fun v21 => []) (fun _ => []) (fun v21 => ?_) (fun hX55_0 => ?_)
    · exact rp_pu (rp_vret rfl dX6_findPairs_137)
    refine rp_sub [1, 2, 3, 0] rfl (rp_it (fun (s8 : Int32) => [(0, .ref (K.2.1 + a0)), (1, .ref (K.2.1 + p1)), (2, .int p2), (3, .int s8)]) (fun N55 ih55 s8 => ?_) FU (0 : Int32))
    refine rp_iload_n 3 dX6_findPairs_55 rfl ?_
    refine rp_aload_n 1 dX6_findPairs_56 rfl ?_
    refine rp_getR fi_X6_52 h_p1 rfl dX6_findPairs_57 ?_
    refine rp_getI fi_X6_58 (tX4_0 h_p1) rfl dX6_findPairs_60 (fun x9 => ?_)
    refine rp_icmp_ge 137 dX6_findPairs_63 (by decide) ?_ ?_
    · exact rp_sub [] rfl (rp_pu (hX55_0 ()))
    · refine rp_iconst (0 : Int32) dX6_findPairs_66 (by decide) ?_
      refine rp_istore [(4, .int (0 : Int32)), (0, .ref (K.2.1 + a0)), (1, .ref (K.2.1 + p1)), (2, .int p2), (3, .int s8)] dX6_findPairs_67 (by decide) rfl ?_
      refine rp_as ?_
      refine rp_join 131 (fun v19 => [(0, .ref (K.2.1 + a0)), (1, .ref (K.2.1 + p1)), (2, .int p2), (3, .int s8)]) (fun _ => []) (fun v19 => ?_) (fun hX69_0 => ?_)
      · refine rp_iinc (fun y20 => [(3, .int y20), (0, .ref (K.2.1 + a0)), (1, .ref (K.2.1 + p1)), (2, .int p2)]) 3 dX6_findPairs_131 rfl (by rfl) (by decide) (fun y20 => rfl) (fun y20 => ?_)
        refine rp_goto 55 dX6_findPairs_134 (by decide) ?_
        exact rp_sub [1, 2, 3, 0] rfl (ih55 y20)
      refine rp_sub [1, 2, 3, 4, 0] rfl (rp_it (fun (s10 : Int32) => [(0, .ref (K.2.1 + a0)), (1, .ref (K.2.1 + p1)), (2, .int p2), (3, .int s8), (4, .int s10)]) (fun N69 ih69 s10 => ?_) FU (0 : Int32))
      refine rp_aload_n 1 dX6_findPairs_69 rfl ?_
      refine rp_iload_n 3 dX6_findPairs_70 rfl ?_
      refine rp_callVz [.int s8] (SX4_lies (hn := hn) p1 s8 h_p1) cvX4_lies (mw (i := 1082) (by decide +kernel)) (by omega) h_p1 (by decide) rfl rfl rfl (Nat.le_of_ble_eq_true rfl) dX6_findPairs_71 (fun x11 => ?_)
      refine rp_if_eq 131 dX6_findPairs_74 (by decide) ?_ ?_
      · exact rp_sub [0, 1, 2, 3] rfl (rp_pu (hX69_0 ()))
      · refine rp_iload 4 dX6_findPairs_77 rfl ?_
        refine rp_aload_n 1 dX6_findPairs_79 rfl ?_
        refine rp_getR fi_X6_52 h_p1 rfl dX6_findPairs_80 ?_
        refine rp_getI fi_X6_67 (tX4_0 h_p1) rfl dX6_findPairs_83 (fun x12 => ?_)
        refine rp_icmp_ge 131 dX6_findPairs_86 (by decide) ?_ ?_
        · exact rp_sub [0, 1, 2, 3] rfl (rp_pu (hX69_0 ()))
        · refine rp_aload_n 1 dX6_findPairs_89 rfl ?_
          refine rp_iload 4 dX6_findPairs_90 rfl ?_
          refine rp_callVi [.int s10] (SX4_freeOn (hn := hn) p1 s10 h_p1) cvX4_freeOn (mw (i := 1083) (by decide +kernel)) (by omega) h_p1 (by decide) rfl rfl rfl (Nat.le_of_ble_eq_true rfl) dX6_findPairs_92 (fun x13 => ?_)
          refine rp_as ?_
          refine rp_join 125 (fun (v17 : Unit) => [(0, .ref (K.2.1 + a0)), (1, .ref (K.2.1 + p1)), (2, .int p2), (3, .int s8), (4, .int s10)]) (fun v17 => []) (fun v17 => ?_) (fun hJ125 => ?_)
          · refine rp_iinc (fun y18 => [(4, .int y18), (0, .ref (K.2.1 + a0)), (1, .ref (K.2.1 + p1)), (2, .int p2), (3, .int s8)]) 4 dX6_findPairs_125 rfl (by rfl) (by decide) (fun y18 => rfl) (fun y18 => ?_)
            refine rp_goto 69 dX6_findPairs_128 (by decide) ?_
            exact rp_sub [1, 2, 3, 4, 0] rfl (ih69 y18)
          refine rp_if_le 125 dX6_findPairs_95 (by decide) ?_ ?_
          · exact rp_sub [0, 1, 2, 3, 4] rfl (rp_pu (hJ125 ()))
          · refine rp_aload_n 0 dX6_findPairs_98 rfl ?_
            refine rp_getR fi_X6_29 h0 rfl dX6_findPairs_99 ?_
            refine rp_aload_n 1 dX6_findPairs_102 rfl ?_
            refine rp_callVv [.ref (K.2.1 + p1)] (SX4_copyFrom (hn := hn) (rf a0 7) p1 (tX6_7 h0) h_p1) cvX4_copyFrom (mw (i := 1084) (by decide +kernel)) (by omega) (tX6_7 h0) (by decide) rfl rfl rfl (Nat.le_of_ble_eq_true rfl) dX6_findPairs_103 (fun x14 => ?_)
            refine rp_aload_n 0 dX6_findPairs_106 rfl ?_
            refine rp_getR fi_X6_29 h0 rfl dX6_findPairs_107 ?_
            refine rp_iload_n 3 dX6_findPairs_110 rfl ?_
            refine rp_iload 4 dX6_findPairs_111 rfl ?_
            refine rp_iconst (1 : Int32) dX6_findPairs_113 (by decide) ?_
            refine rp_callVv [.int s8, .int s10, .int (1 : Int32)] (SX4_putUp (hn := hn) (rf a0 7) s8 s10 (1 : Int32) (tX6_7 h0)) cvX4_putUp (mw (i := 1085) (by decide +kernel)) (by omega) (tX6_7 h0) (by decide) rfl rfl rfl (Nat.le_of_ble_eq_true rfl) dX6_findPairs_114 (fun x15 => ?_)
            refine rp_aload_n 0 dX6_findPairs_117 rfl ?_
            refine rp_iload_n 3 dX6_findPairs_118 rfl ?_
            refine rp_iload 4 dX6_findPairs_119 rfl ?_
            refine rp_iload_n 2 dX6_findPairs_121 rfl ?_
            refine rp_callVv [.int s8, .int s10, .int p2] (SX6_tryPair (hn := hn) a0 s8 s10 p2 h0) cvX6_tryPair (mw (i := 1086) (by decide +kernel)) (by omega) h0 (by decide) rfl rfl rfl (Nat.le_of_ble_eq_true rfl) dX6_findPairs_122 (fun x16 => ?_)
            exact rp_sub [0, 1, 2, 3, 4] rfl (rp_pu (hJ125 ()))
  refine rp_sub [1, 2, 3, 0] rfl (rp_it (fun (s1 : Int32) => [(0, .ref (K.2.1 + a0)), (1, .ref (K.2.1 + p1)), (2, .int p2), (3, .int s1)]) (fun N17 ih17 s1 => ?_) FU (0 : Int32))
  refine rp_iload_n 3 dX6_findPairs_17 rfl ?_
  refine rp_iconst (4 : Int32) dX6_findPairs_18 (by decide) ?_
  refine rp_icmp_ge 53 dX6_findPairs_19 (by decide) ?_ ?_
  · exact rp_sub [0, 1, 2] rfl (rp_pu (hX17_0 ()))
  · refine rp_iconst (0 : Int32) dX6_findPairs_22 (by decide) ?_
    refine rp_istore [(4, .int (0 : Int32)), (0, .ref (K.2.1 + a0)), (1, .ref (K.2.1 + p1)), (2, .int p2), (3, .int s1)] dX6_findPairs_23 (by decide) rfl ?_
    refine rp_as ?_
    refine rp_join 47 (fun v5 => [(0, .ref (K.2.1 + a0)), (1, .ref (K.2.1 + p1)), (2, .int p2), (3, .int s1)]) (fun _ => []) (fun v5 => ?_) (fun hX25_0 => ?_)
    · refine rp_iinc (fun y6 => [(3, .int y6), (0, .ref (K.2.1 + a0)), (1, .ref (K.2.1 + p1)), (2, .int p2)]) 3 dX6_findPairs_47 rfl (by rfl) (by decide) (fun y6 => rfl) (fun y6 => ?_)
      refine rp_goto 17 dX6_findPairs_50 (by decide) ?_
      exact rp_sub [1, 2, 3, 0] rfl (ih17 y6)
    refine rp_sub [1, 2, 3, 4, 0] rfl (rp_it (fun (s2 : Int32) => [(0, .ref (K.2.1 + a0)), (1, .ref (K.2.1 + p1)), (2, .int p2), (3, .int s1), (4, .int s2)]) (fun N25 ih25 s2 => ?_) FU (0 : Int32))
    refine rp_iload 4 dX6_findPairs_25 rfl ?_
    refine rp_iconst (4 : Int32) dX6_findPairs_27 (by decide) ?_
    refine rp_icmp_gt 47 dX6_findPairs_28 (by decide) ?_ ?_
    · exact rp_sub [0, 1, 2, 3] rfl (rp_pu (hX25_0 ()))
    · refine rp_aload_n 0 dX6_findPairs_31 rfl ?_
      refine rp_getR fi_X6_23 h0 rfl dX6_findPairs_32 ?_
      refine rp_iload_n 3 dX6_findPairs_35 rfl ?_
      refine rp_aald6 (tX6_8 h0) dX6_findPairs_36 (fun hb3 => ?_)
      refine rp_iload 4 dX6_findPairs_37 rfl ?_
      refine rp_iconst (0 : Int32) dX6_findPairs_39 (by decide) ?_
      refine rp_iast (arr6 (tX6_8 h0) hb3) dX6_findPairs_40 ?_
      refine rp_iinc (fun y4 => [(4, .int y4), (0, .ref (K.2.1 + a0)), (1, .ref (K.2.1 + p1)), (2, .int p2), (3, .int s1)]) 4 dX6_findPairs_41 rfl (by rfl) (by decide) (fun y4 => rfl) (fun y4 => ?_)
      refine rp_goto 25 dX6_findPairs_44 (by decide) ?_
      exact rp_sub [1, 2, 3, 4, 0] rfl (ih25 y4)

theorem dX6_bestPlace_0 : decode cX6_bestPlace 0 = .ok (.iconst (-1), 1) := by decide +kernel
theorem dX6_bestPlace_1 : decode cX6_bestPlace 1 = .ok (.istore_n 1, 1) := by decide +kernel
theorem dX6_bestPlace_2 : decode cX6_bestPlace 2 = .ok (.aload_n 0, 1) := by decide +kernel
theorem dX6_bestPlace_3 : decode cX6_bestPlace 3 = .ok (.getfield 43, 3) := by decide +kernel
theorem dX6_bestPlace_6 : decode cX6_bestPlace 6 = .ok (.istore_n 2, 1) := by decide +kernel
theorem dX6_bestPlace_7 : decode cX6_bestPlace 7 = .ok (.iconst 0, 1) := by decide +kernel
theorem dX6_bestPlace_8 : decode cX6_bestPlace 8 = .ok (.istore_n 3, 1) := by decide +kernel
theorem dX6_bestPlace_9 : decode cX6_bestPlace 9 = .ok (.iload_n 3, 1) := by decide +kernel
theorem dX6_bestPlace_10 : decode cX6_bestPlace 10 = .ok (.aload_n 0, 1) := by decide +kernel
theorem dX6_bestPlace_11 : decode cX6_bestPlace 11 = .ok (.getfield 29, 3) := by decide +kernel
theorem dX6_bestPlace_14 : decode cX6_bestPlace 14 = .ok (.getfield 52, 3) := by decide +kernel
theorem dX6_bestPlace_17 : decode cX6_bestPlace 17 = .ok (.getfield 88, 3) := by decide +kernel
theorem dX6_bestPlace_20 : decode cX6_bestPlace 20 = .ok (.if_icmp .ge 54, 3) := by decide +kernel
theorem dX6_bestPlace_23 : decode cX6_bestPlace 23 = .ok (.iconst 0, 1) := by decide +kernel
theorem dX6_bestPlace_24 : decode cX6_bestPlace 24 = .ok (.istore 4, 2) := by decide +kernel
theorem dX6_bestPlace_26 : decode cX6_bestPlace 26 = .ok (.iconst 0, 1) := by decide +kernel
theorem dX6_bestPlace_27 : decode cX6_bestPlace 27 = .ok (.istore 5, 2) := by decide +kernel
theorem dX6_bestPlace_29 : decode cX6_bestPlace 29 = .ok (.iload 5, 2) := by decide +kernel
theorem dX6_bestPlace_31 : decode cX6_bestPlace 31 = .ok (.iconst 4, 1) := by decide +kernel
theorem dX6_bestPlace_32 : decode cX6_bestPlace 32 = .ok (.if_icmp .gt 25, 3) := by decide +kernel
theorem dX6_bestPlace_35 : decode cX6_bestPlace 35 = .ok (.iload 4, 2) := by decide +kernel
theorem dX6_bestPlace_37 : decode cX6_bestPlace 37 = .ok (.aload_n 0, 1) := by decide +kernel
theorem dX6_bestPlace_38 : decode cX6_bestPlace 38 = .ok (.getfield 23, 3) := by decide +kernel
theorem dX6_bestPlace_41 : decode cX6_bestPlace 41 = .ok (.iload_n 3, 1) := by decide +kernel
theorem dX6_bestPlace_42 : decode cX6_bestPlace 42 = .ok (.aaload, 1) := by decide +kernel
theorem dX6_bestPlace_43 : decode cX6_bestPlace 43 = .ok (.iload 5, 2) := by decide +kernel
theorem dX6_bestPlace_45 : decode cX6_bestPlace 45 = .ok (.iaload, 1) := by decide +kernel
theorem dX6_bestPlace_46 : decode cX6_bestPlace 46 = .ok (.invokestatic 90, 3) := by decide +kernel
theorem dX6_bestPlace_49 : decode cX6_bestPlace 49 = .ok (.istore 4, 2) := by decide +kernel
theorem dX6_bestPlace_51 : decode cX6_bestPlace 51 = .ok (.iinc 5 1, 3) := by decide +kernel
theorem dX6_bestPlace_54 : decode cX6_bestPlace 54 = .ok (.goto (-25), 3) := by decide +kernel
theorem dX6_bestPlace_57 : decode cX6_bestPlace 57 = .ok (.iload 4, 2) := by decide +kernel
theorem dX6_bestPlace_59 : decode cX6_bestPlace 59 = .ok (.iload_n 2, 1) := by decide +kernel
theorem dX6_bestPlace_60 : decode cX6_bestPlace 60 = .ok (.if_icmp .ge 8, 3) := by decide +kernel
theorem dX6_bestPlace_63 : decode cX6_bestPlace 63 = .ok (.iload 4, 2) := by decide +kernel
theorem dX6_bestPlace_65 : decode cX6_bestPlace 65 = .ok (.istore_n 2, 1) := by decide +kernel
theorem dX6_bestPlace_66 : decode cX6_bestPlace 66 = .ok (.iload_n 3, 1) := by decide +kernel
theorem dX6_bestPlace_67 : decode cX6_bestPlace 67 = .ok (.istore_n 1, 1) := by decide +kernel
theorem dX6_bestPlace_68 : decode cX6_bestPlace 68 = .ok (.iinc 3 1, 3) := by decide +kernel
theorem dX6_bestPlace_71 : decode cX6_bestPlace 71 = .ok (.goto (-62), 3) := by decide +kernel
theorem dX6_bestPlace_74 : decode cX6_bestPlace 74 = .ok (.iload_n 1, 1) := by decide +kernel
theorem dX6_bestPlace_75 : decode cX6_bestPlace 75 = .ok (.ireturn, 1) := by decide +kernel
abbrev mX6_bestPlace : MI := (RX6, yX6_bestPlace, cX6_bestPlace, 6, some .int)
theorem cvX6_bestPlace : CV mX6_bestPlace 0 := ⟨⟨mw (i := 1108) (by decide +kernel), mw (i := 10) (by decide +kernel), ⟨by decide +kernel, by decide +kernel, by decide +kernel⟩, by decide⟩, mw (i := 1106) (by decide +kernel), mw (i := 1107) (by decide +kernel)⟩
def FX6_bestPlace (a0 : Nat) : PP Int32 := bd (gI a0 4) (fun x1 => bd (it (fun (s2 : Int32 × Int32 × Int32) => (bd (gI (rf (rf a0 7) 0) 10) (fun x3 => if x3 ≤ s2.2.2 then pu (Sum.inr s2.1) else bd (it (fun (s4 : Int32 × Int32) => (if (4 : Int32) < s4.2 then pu (Sum.inr s4.1) else bd (gd (ib s2.2.2 4 = true)) (fun (_ : Unit) => bd (aI (rf (rf a0 8) s2.2.2.toNatClampNeg) 5 s4.2) (fun x6 => lt ((if s4.1 < x6 then x6 else s4.1)) (fun y7 => lt (s4.2 + (1 : Int32)) (fun y8 => pu (Sum.inl (y7, y8)))))) : PP ((Int32 × Int32) ⊕ (Int32)))) FU ((0 : Int32), (0 : Int32))) (fun (v9 : Int32) => bd (if s2.2.1 ≤ v9 then pu (s2.1, s2.2.1) else pu (s2.2.2, v9) : PP (Int32 × Int32)) (fun (v10 : Int32 × Int32) => lt (s2.2.2 + (1 : Int32)) (fun y11 => pu (Sum.inl (v10.1, v10.2, y11)))))) : PP ((Int32 × Int32 × Int32) ⊕ (Int32)))) FU ((-1 : Int32), x1, (0 : Int32))) (fun (v12 : Int32) => pu v12))
set_option maxHeartbeats 4000000 in
set_option maxRecDepth 100000 in
theorem SX6_bestPlace {l : Launch} {K : KK} {n : Nat} {hn : 270 ≤ n} (a0 : Nat) (h0 : ob a0 6) : CT l K n 1 mX6_bestPlace [.ref (K.2.1 + a0)] enI (FX6_bestPlace a0) := by
  refine CT.of2 (lv2 := [(0, .ref (K.2.1 + a0))]) (by decide) rfl hn (Nat.le_of_ble_eq_true rfl) rfl (rp_id ?_)
  unfold FX6_bestPlace
  refine rp_iconst (-1 : Int32) dX6_bestPlace_0 (by decide) ?_
  refine rp_istore_n [(1, .int (-1 : Int32)), (0, .ref (K.2.1 + a0))] dX6_bestPlace_1 (by decide) rfl ?_
  refine rp_aload_n 1 dX6_bestPlace_2 rfl ?_
  refine rp_getI fi_X6_43 h0 rfl dX6_bestPlace_3 (fun x1 => ?_)
  refine rp_istore_n [(2, .int x1), (1, .int (-1 : Int32)), (0, .ref (K.2.1 + a0))] dX6_bestPlace_6 (by decide) rfl ?_
  refine rp_iconst (0 : Int32) dX6_bestPlace_7 (by decide) ?_
  refine rp_istore_n [(3, .int (0 : Int32)), (2, .int x1), (1, .int (-1 : Int32)), (0, .ref (K.2.1 + a0))] dX6_bestPlace_8 (by decide) rfl ?_
  refine rp_as ?_
  refine rp_join 74 (fun v12 => [(1, .int v12)]) (fun _ => []) (fun v12 => ?_) (fun hX9_0 => ?_)
  · refine rp_iload_n 0 dX6_bestPlace_74 rfl ?_
    exact rp_pu (rp_iret rfl dX6_bestPlace_75)
  refine rp_sub [3, 2, 1, 0] rfl (rp_it (fun (s2 : Int32 × Int32 × Int32) => [(0, .ref (K.2.1 + a0)), (1, .int s2.1), (2, .int s2.2.1), (3, .int s2.2.2)]) (fun N9 ih9 s2 => ?_) FU ((-1 : Int32), x1, (0 : Int32)))
  refine rp_iload_n 3 dX6_bestPlace_9 rfl ?_
  refine rp_aload_n 0 dX6_bestPlace_10 rfl ?_
  refine rp_getR fi_X6_29 h0 rfl dX6_bestPlace_11 ?_
  refine rp_getR fi_X6_52 (tX6_7 h0) rfl dX6_bestPlace_14 ?_
  refine rp_getI fi_X6_88 (tX4_0 (tX6_7 h0)) rfl dX6_bestPlace_17 (fun x3 => ?_)
  refine rp_icmp_ge 74 dX6_bestPlace_20 (by decide) ?_ ?_
  · exact rp_sub [1] rfl (rp_pu (hX9_0 s2.1))
  · refine rp_iconst (0 : Int32) dX6_bestPlace_23 (by decide) ?_
    refine rp_istore [(4, .int (0 : Int32)), (0, .ref (K.2.1 + a0)), (1, .int s2.1), (2, .int s2.2.1), (3, .int s2.2.2)] dX6_bestPlace_24 (by decide) rfl ?_
    refine rp_iconst (0 : Int32) dX6_bestPlace_26 (by decide) ?_
    refine rp_istore [(5, .int (0 : Int32)), (4, .int (0 : Int32)), (0, .ref (K.2.1 + a0)), (1, .int s2.1), (2, .int s2.2.1), (3, .int s2.2.2)] dX6_bestPlace_27 (by decide) rfl ?_
    refine rp_as ?_
    refine rp_join 57 (fun v9 => [(0, .ref (K.2.1 + a0)), (1, .int s2.1), (2, .int s2.2.1), (3, .int s2.2.2), (4, .int v9)]) (fun _ => []) (fun v9 => ?_) (fun hX29_0 => ?_)
    · refine rp_iload 4 dX6_bestPlace_57 rfl ?_
      refine rp_iload_n 2 dX6_bestPlace_59 rfl ?_
      refine rp_as ?_
      refine rp_join 68 (fun (v10 : Int32 × Int32) => [(0, .ref (K.2.1 + a0)), (1, .int v10.1), (2, .int v10.2), (3, .int s2.2.2)]) (fun v10 => []) (fun v10 => ?_) (fun hJ68 => ?_)
      · refine rp_iinc (fun y11 => [(3, .int y11), (0, .ref (K.2.1 + a0)), (1, .int v10.1), (2, .int v10.2)]) 3 dX6_bestPlace_68 rfl (by rfl) (by decide) (fun y11 => rfl) (fun y11 => ?_)
        refine rp_goto 9 dX6_bestPlace_71 (by decide) ?_
        exact rp_sub [1, 2, 3, 0] rfl (ih9 (v10.1, v10.2, y11))
      refine rp_icmp_ge 68 dX6_bestPlace_60 (by decide) ?_ ?_
      · exact rp_sub [0, 1, 2, 3] rfl (rp_pu (hJ68 (s2.1, s2.2.1)))
      · refine rp_iload 4 dX6_bestPlace_63 rfl ?_
        refine rp_istore_n [(2, .int v9), (0, .ref (K.2.1 + a0)), (1, .int s2.1), (3, .int s2.2.2), (4, .int v9)] dX6_bestPlace_65 (by decide) rfl ?_
        refine rp_iload_n 3 dX6_bestPlace_66 rfl ?_
        refine rp_istore_n [(1, .int s2.2.2), (2, .int v9), (0, .ref (K.2.1 + a0)), (3, .int s2.2.2), (4, .int v9)] dX6_bestPlace_67 (by decide) rfl ?_
        exact rp_sub [2, 0, 1, 3] rfl (rp_pu (hJ68 (s2.2.2, v9)))
    refine rp_sub [2, 3, 4, 5, 1, 0] rfl (rp_it (fun (s4 : Int32 × Int32) => [(0, .ref (K.2.1 + a0)), (1, .int s2.1), (2, .int s2.2.1), (3, .int s2.2.2), (4, .int s4.1), (5, .int s4.2)]) (fun N29 ih29 s4 => ?_) FU ((0 : Int32), (0 : Int32)))
    refine rp_iload 5 dX6_bestPlace_29 rfl ?_
    refine rp_iconst (4 : Int32) dX6_bestPlace_31 (by decide) ?_
    refine rp_icmp_gt 57 dX6_bestPlace_32 (by decide) ?_ ?_
    · exact rp_sub [0, 1, 2, 3, 4] rfl (rp_pu (hX29_0 s4.1))
    · refine rp_iload 4 dX6_bestPlace_35 rfl ?_
      refine rp_aload_n 0 dX6_bestPlace_37 rfl ?_
      refine rp_getR fi_X6_23 h0 rfl dX6_bestPlace_38 ?_
      refine rp_iload_n 3 dX6_bestPlace_41 rfl ?_
      refine rp_aald6 (tX6_8 h0) dX6_bestPlace_42 (fun hb5 => ?_)
      refine rp_iload 5 dX6_bestPlace_43 rfl ?_
      refine rp_iald (arr6 (tX6_8 h0) hb5) dX6_bestPlace_45 (fun x6 => ?_)
      refine rp_mmax (mw (i := 1094) (by decide +kernel)) (by omega) (Nat.le_of_ble_eq_true rfl) dX6_bestPlace_46 ?_
      refine rp_lti (fun y7 => ?_)
      refine rp_istore [(4, .int y7), (0, .ref (K.2.1 + a0)), (1, .int s2.1), (2, .int s2.2.1), (3, .int s2.2.2), (5, .int s4.2)] dX6_bestPlace_49 (by decide) rfl ?_
      refine rp_iinc (fun y8 => [(5, .int y8), (4, .int y7), (0, .ref (K.2.1 + a0)), (1, .int s2.1), (2, .int s2.2.1), (3, .int s2.2.2)]) 5 dX6_bestPlace_51 rfl (by rfl) (by decide) (fun y8 => rfl) (fun y8 => ?_)
      refine rp_goto 29 dX6_bestPlace_54 (by decide) ?_
      exact rp_sub [2, 3, 4, 5, 1, 0] rfl (ih29 (y7, y8))
