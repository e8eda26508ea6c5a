theorem dX11_count_0 : decode cX11_count 0 = .ok (.iload_n 1, 1) := by decide +kernel
theorem dX11_count_1 : decode cX11_count 1 = .ok (.tableswitch 159 0 11 #[63, 71, 79, 87, 95, 103, 111, 119, 127, 135, 143, 151], 63) := by decide +kernel
theorem dX11_count_64 : decode cX11_count 64 = .ok (.aload_n 0, 1) := by decide +kernel
theorem dX11_count_65 : decode cX11_count 65 = .ok (.getfield 19, 3) := by decide +kernel
theorem dX11_count_68 : decode cX11_count 68 = .ok (.getfield 183, 3) := by decide +kernel
theorem dX11_count_71 : decode cX11_count 71 = .ok (.ireturn, 1) := by decide +kernel
theorem dX11_count_72 : decode cX11_count 72 = .ok (.aload_n 0, 1) := by decide +kernel
theorem dX11_count_73 : decode cX11_count 73 = .ok (.getfield 19, 3) := by decide +kernel
theorem dX11_count_76 : decode cX11_count 76 = .ok (.getfield 186, 3) := by decide +kernel
theorem dX11_count_79 : decode cX11_count 79 = .ok (.ireturn, 1) := by decide +kernel
theorem dX11_count_80 : decode cX11_count 80 = .ok (.aload_n 0, 1) := by decide +kernel
theorem dX11_count_81 : decode cX11_count 81 = .ok (.getfield 19, 3) := by decide +kernel
theorem dX11_count_84 : decode cX11_count 84 = .ok (.getfield 189, 3) := by decide +kernel
theorem dX11_count_87 : decode cX11_count 87 = .ok (.ireturn, 1) := by decide +kernel
theorem dX11_count_88 : decode cX11_count 88 = .ok (.aload_n 0, 1) := by decide +kernel
theorem dX11_count_89 : decode cX11_count 89 = .ok (.getfield 47, 3) := by decide +kernel
theorem dX11_count_92 : decode cX11_count 92 = .ok (.getfield 192, 3) := by decide +kernel
theorem dX11_count_95 : decode cX11_count 95 = .ok (.ireturn, 1) := by decide +kernel
theorem dX11_count_96 : decode cX11_count 96 = .ok (.aload_n 0, 1) := by decide +kernel
theorem dX11_count_97 : decode cX11_count 97 = .ok (.getfield 47, 3) := by decide +kernel
theorem dX11_count_100 : decode cX11_count 100 = .ok (.invokevirtual 195, 3) := by decide +kernel
theorem dX11_count_103 : decode cX11_count 103 = .ok (.ireturn, 1) := by decide +kernel
theorem dX11_count_104 : decode cX11_count 104 = .ok (.aload_n 0, 1) := by decide +kernel
theorem dX11_count_105 : decode cX11_count 105 = .ok (.getfield 47, 3) := by decide +kernel
theorem dX11_count_108 : decode cX11_count 108 = .ok (.invokevirtual 198, 3) := by decide +kernel
theorem dX11_count_111 : decode cX11_count 111 = .ok (.ireturn, 1) := by decide +kernel
theorem dX11_count_112 : decode cX11_count 112 = .ok (.aload_n 0, 1) := by decide +kernel
theorem dX11_count_113 : decode cX11_count 113 = .ok (.getfield 47, 3) := by decide +kernel
theorem dX11_count_116 : decode cX11_count 116 = .ok (.invokevirtual 201, 3) := by decide +kernel
theorem dX11_count_119 : decode cX11_count 119 = .ok (.ireturn, 1) := by decide +kernel
theorem dX11_count_120 : decode cX11_count 120 = .ok (.aload_n 0, 1) := by decide +kernel
theorem dX11_count_121 : decode cX11_count 121 = .ok (.getfield 66, 3) := by decide +kernel
theorem dX11_count_124 : decode cX11_count 124 = .ok (.invokevirtual 204, 3) := by decide +kernel
theorem dX11_count_127 : decode cX11_count 127 = .ok (.ireturn, 1) := by decide +kernel
theorem dX11_count_128 : decode cX11_count 128 = .ok (.aload_n 0, 1) := by decide +kernel
theorem dX11_count_129 : decode cX11_count 129 = .ok (.getfield 35, 3) := by decide +kernel
theorem dX11_count_132 : decode cX11_count 132 = .ok (.getfield 119, 3) := by decide +kernel
theorem dX11_count_135 : decode cX11_count 135 = .ok (.ireturn, 1) := by decide +kernel
theorem dX11_count_136 : decode cX11_count 136 = .ok (.aload_n 0, 1) := by decide +kernel
theorem dX11_count_137 : decode cX11_count 137 = .ok (.getfield 73, 3) := by decide +kernel
theorem dX11_count_140 : decode cX11_count 140 = .ok (.getfield 125, 3) := by decide +kernel
theorem dX11_count_143 : decode cX11_count 143 = .ok (.ireturn, 1) := by decide +kernel
theorem dX11_count_144 : decode cX11_count 144 = .ok (.aload_n 0, 1) := by decide +kernel
theorem dX11_count_145 : decode cX11_count 145 = .ok (.getfield 57, 3) := by decide +kernel
theorem dX11_count_148 : decode cX11_count 148 = .ok (.getfield 126, 3) := by decide +kernel
theorem dX11_count_151 : decode cX11_count 151 = .ok (.ireturn, 1) := by decide +kernel
theorem dX11_count_152 : decode cX11_count 152 = .ok (.aload_n 0, 1) := by decide +kernel
theorem dX11_count_153 : decode cX11_count 153 = .ok (.getfield 10, 3) := by decide +kernel
theorem dX11_count_156 : decode cX11_count 156 = .ok (.getfield 92, 3) := by decide +kernel
theorem dX11_count_159 : decode cX11_count 159 = .ok (.ireturn, 1) := by decide +kernel
theorem dX11_count_160 : decode cX11_count 160 = .ok (.iconst (-1), 1) := by decide +kernel
theorem dX11_count_161 : decode cX11_count 161 = .ok (.ireturn, 1) := by decide +kernel
abbrev mX11_count : MI := (RX11, yX11_count, cX11_count, 2, some .int)
theorem cvX11_count : CV mX11_count 1 := ⟨⟨mw (i := 830) (by decide +kernel), mw (i := 1) (by decide +kernel), ⟨by decide +kernel, by decide +kernel, by decide +kernel⟩, by decide⟩, mw (i := 828) (by decide +kernel), mw (i := 829) (by decide +kernel)⟩
def FX11_count (a0 : Nat) (p1 : Int32) : PP Int32 := tsw p1 [(0 : Int32), (1 : Int32), (2 : Int32), (3 : Int32), (4 : Int32), (5 : Int32), (6 : Int32), (7 : Int32), (8 : Int32), (9 : Int32), (10 : Int32), (11 : Int32)] [bd (gI (rf a0 1) 9) (fun x1 => pu x1), bd (gI (rf a0 1) 10) (fun x2 => pu x2), bd (gI (rf a0 1) 11) (fun x3 => pu x3), bd (gI (rf a0 5) 5) (fun x4 => pu x4), bd (FX4_hanging (rf a0 5)) (fun x5 => pu x5), bd (FX4_wetOnes (rf a0 5)) (fun x6 => pu x6), bd (FX4_freeInAll (rf a0 5)) (fun x7 => pu x7), bd (FX9_wantedPlaces (rf a0 8)) (fun x8 => pu x8), bd (gI (rf a0 3) 4) (fun x9 => pu x9), bd (gI (rf a0 9) 3) (fun x10 => pu x10), bd (gI (rf a0 7) 1) (fun x11 => pu x11), bd (gI (rf a0 0) 1) (fun x12 => pu x12)] (pu (-1 : Int32))
set_option maxHeartbeats 4000000 in
set_option maxRecDepth 100000 in
theorem SX11_count {l : Launch} {K : KK} {n : Nat} {hn : 270 ≤ n} (a0 : Nat) (p1 : Int32) (h0 : ob a0 10) : CT l K n 2 mX11_count [.ref (K.2.1 + a0), .int p1] enI (FX11_count a0 p1) := by
  refine CT.of2 (lv2 := [(0, .ref (K.2.1 + a0)), (1, .int p1)]) (by decide) rfl hn (Nat.le_of_ble_eq_true rfl) rfl (rp_id ?_)
  unfold FX11_count
  refine rp_iload_n 1 dX11_count_0 rfl ?_
  refine rp_tsw [64, 72, 80, 88, 96, 104, 112, 120, 128, 136, 144, 152] 160 dX11_count_1 rfl (by decide +kernel) ?_ ?_
  · refine ⟨?_, ?_, ?_, ?_, ?_, ?_, ?_, ?_, ?_, ?_, ?_, ?_, trivial⟩
    · refine rp_aload_n 0 dX11_count_64 rfl ?_
      refine rp_getR fi_X11_19 h0 rfl dX11_count_65 ?_
      refine rp_getI fi_X11_183 (tX11_1 h0) rfl dX11_count_68 (fun x1 => ?_)
      exact rp_pu (rp_iret rfl dX11_count_71)
    · refine rp_aload_n 0 dX11_count_72 rfl ?_
      refine rp_getR fi_X11_19 h0 rfl dX11_count_73 ?_
      refine rp_getI fi_X11_186 (tX11_1 h0) rfl dX11_count_76 (fun x2 => ?_)
      exact rp_pu (rp_iret rfl dX11_count_79)
    · refine rp_aload_n 0 dX11_count_80 rfl ?_
      refine rp_getR fi_X11_19 h0 rfl dX11_count_81 ?_
      refine rp_getI fi_X11_189 (tX11_1 h0) rfl dX11_count_84 (fun x3 => ?_)
      exact rp_pu (rp_iret rfl dX11_count_87)
    · refine rp_aload_n 0 dX11_count_88 rfl ?_
      refine rp_getR fi_X11_47 h0 rfl dX11_count_89 ?_
      refine rp_getI fi_X11_192 (tX11_5 h0) rfl dX11_count_92 (fun x4 => ?_)
      exact rp_pu (rp_iret rfl dX11_count_95)
    · refine rp_aload_n 0 dX11_count_96 rfl ?_
      refine rp_getR fi_X11_47 h0 rfl dX11_count_97 ?_
      refine rp_callVi [] (SX4_hanging (hn := hn) (rf a0 5) (tX11_5 h0)) cvX4_hanging (mw (i := 831) (by decide +kernel)) (by omega) (tX11_5 h0) (by decide) rfl rfl rfl (Nat.le_of_ble_eq_true rfl) dX11_count_100 (fun x5 => ?_)
      exact rp_pu (rp_iret rfl dX11_count_103)
    · refine rp_aload_n 0 dX11_count_104 rfl ?_
      refine rp_getR fi_X11_47 h0 rfl dX11_count_105 ?_
      refine rp_callVi [] (SX4_wetOnes (hn := hn) (rf a0 5) (tX11_5 h0)) cvX4_wetOnes (mw (i := 835) (by decide +kernel)) (by omega) (tX11_5 h0) (by decide) rfl rfl rfl (Nat.le_of_ble_eq_true rfl) dX11_count_108 (fun x6 => ?_)
      exact rp_pu (rp_iret rfl dX11_count_111)
    · refine rp_aload_n 0 dX11_count_112 rfl ?_
      refine rp_getR fi_X11_47 h0 rfl dX11_count_113 ?_
      refine rp_callVi [] (SX4_freeInAll (hn := hn) (rf a0 5) (tX11_5 h0)) cvX4_freeInAll (mw (i := 839) (by decide +kernel)) (by omega) (tX11_5 h0) (by decide) rfl rfl rfl (Nat.le_of_ble_eq_true rfl) dX11_count_116 (fun x7 => ?_)
      exact rp_pu (rp_iret rfl dX11_count_119)
    · refine rp_aload_n 0 dX11_count_120 rfl ?_
      refine rp_getR fi_X11_66 h0 rfl dX11_count_121 ?_
      refine rp_callVi [] (SX9_wantedPlaces (hn := hn) (rf a0 8) (tX11_8 h0)) cvX9_wantedPlaces (mw (i := 844) (by decide +kernel)) (by omega) (tX11_8 h0) (by decide) rfl rfl rfl (Nat.le_of_ble_eq_true rfl) dX11_count_124 (fun x8 => ?_)
      exact rp_pu (rp_iret rfl dX11_count_127)
    · refine rp_aload_n 0 dX11_count_128 rfl ?_
      refine rp_getR fi_X11_35 h0 rfl dX11_count_129 ?_
      refine rp_getI fi_X11_119 (tX11_3 h0) rfl dX11_count_132 (fun x9 => ?_)
      exact rp_pu (rp_iret rfl dX11_count_135)
    · refine rp_aload_n 0 dX11_count_136 rfl ?_
      refine rp_getR fi_X11_73 h0 rfl dX11_count_137 ?_
      refine rp_getI fi_X11_125 (tX11_9 h0) rfl dX11_count_140 (fun x10 => ?_)
      exact rp_pu (rp_iret rfl dX11_count_143)
    · refine rp_aload_n 0 dX11_count_144 rfl ?_
      refine rp_getR fi_X11_57 h0 rfl dX11_count_145 ?_
      refine rp_getI fi_X11_126 (tX11_7 h0) rfl dX11_count_148 (fun x11 => ?_)
      exact rp_pu (rp_iret rfl dX11_count_151)
    · refine rp_aload_n 0 dX11_count_152 rfl ?_
      refine rp_getR fi_X11_10 h0 rfl dX11_count_153 ?_
      refine rp_getI fi_X11_92 (tX11_0 h0) rfl dX11_count_156 (fun x12 => ?_)
      exact rp_pu (rp_iret rfl dX11_count_159)
  · refine rp_iconst (-1 : Int32) dX11_count_160 (by decide) ?_
    exact rp_pu (rp_iret rfl dX11_count_161)

theorem dX11_hang_0 : decode cX11_hang 0 = .ok (.aload_n 0, 1) := by decide +kernel
theorem dX11_hang_1 : decode cX11_hang 1 = .ok (.getfield 47, 3) := by decide +kernel
theorem dX11_hang_4 : decode cX11_hang 4 = .ok (.iload_n 1, 1) := by decide +kernel
theorem dX11_hang_5 : decode cX11_hang 5 = .ok (.iload_n 2, 1) := by decide +kernel
theorem dX11_hang_6 : decode cX11_hang 6 = .ok (.iload_n 3, 1) := by decide +kernel
theorem dX11_hang_7 : decode cX11_hang 7 = .ok (.invokevirtual 207, 3) := by decide +kernel
theorem dX11_hang_10 : decode cX11_hang 10 = .ok (.ifCond .ne 5, 3) := by decide +kernel
theorem dX11_hang_13 : decode cX11_hang 13 = .ok (.iconst (-1), 1) := by decide +kernel
theorem dX11_hang_14 : decode cX11_hang 14 = .ok (.ireturn, 1) := by decide +kernel
theorem dX11_hang_15 : decode cX11_hang 15 = .ok (.aload_n 0, 1) := by decide +kernel
theorem dX11_hang_16 : decode cX11_hang 16 = .ok (.getfield 57, 3) := by decide +kernel
theorem dX11_hang_19 : decode cX11_hang 19 = .ok (.aload_n 0, 1) := by decide +kernel
theorem dX11_hang_20 : decode cX11_hang 20 = .ok (.getfield 47, 3) := by decide +kernel
theorem dX11_hang_23 : decode cX11_hang 23 = .ok (.invokevirtual 211, 3) := by decide +kernel
theorem dX11_hang_26 : decode cX11_hang 26 = .ok (.aload_n 0, 1) := by decide +kernel
theorem dX11_hang_27 : decode cX11_hang 27 = .ok (.getfield 47, 3) := by decide +kernel
theorem dX11_hang_30 : decode cX11_hang 30 = .ok (.iload_n 1, 1) := by decide +kernel
theorem dX11_hang_31 : decode cX11_hang 31 = .ok (.iload_n 2, 1) := by decide +kernel
theorem dX11_hang_32 : decode cX11_hang 32 = .ok (.iload_n 3, 1) := by decide +kernel
theorem dX11_hang_33 : decode cX11_hang 33 = .ok (.invokevirtual 214, 3) := by decide +kernel
theorem dX11_hang_36 : decode cX11_hang 36 = .ok (.aload_n 0, 1) := by decide +kernel
theorem dX11_hang_37 : decode cX11_hang 37 = .ok (.getfield 47, 3) := by decide +kernel
theorem dX11_hang_40 : decode cX11_hang 40 = .ok (.iload_n 2, 1) := by decide +kernel
theorem dX11_hang_41 : decode cX11_hang 41 = .ok (.invokevirtual 139, 3) := by decide +kernel
theorem dX11_hang_44 : decode cX11_hang 44 = .ok (.ireturn, 1) := by decide +kernel
abbrev mX11_hang : MI := (RX11, yX11_hang, cX11_hang, 4, some .int)
theorem cvX11_hang : CV mX11_hang 3 := ⟨⟨mw (i := 851) (by decide +kernel), mw (i := 1) (by decide +kernel), ⟨by decide +kernel, by decide +kernel, by decide +kernel⟩, by decide⟩, mw (i := 849) (by decide +kernel), mw (i := 850) (by decide +kernel)⟩
def FX11_hang (a0 : Nat) (p1 : Int32) (p2 : Int32) (p3 : Int32) : PP Int32 := bd (FX4_canHang (rf a0 5) p1 p2 p3) (fun x1 => if ((b2i x1)) = 0 then pu (-1 : Int32) else bd (FX2_keep (rf a0 7) (rf a0 5)) (fun (_ : Unit) => bd (FX4_putUp (rf a0 5) p1 p2 p3) (fun (_ : Unit) => bd (FX4_freeOn (rf a0 5) p2) (fun x4 => pu x4))))
set_option maxHeartbeats 4000000 in
set_option maxRecDepth 100000 in
theorem SX11_hang {l : Launch} {K : KK} {n : Nat} {hn : 270 ≤ n} (a0 : Nat) (p1 : Int32) (p2 : Int32) (p3 : Int32) (h0 : ob a0 10) : CT l K n 3 mX11_hang [.ref (K.2.1 + a0), .int p1, .int p2, .int p3] enI (FX11_hang a0 p1 p2 p3) := by
  refine CT.of2 (lv2 := [(0, .ref (K.2.1 + a0)), (1, .int p1), (2, .int p2), (3, .int p3)]) (by decide) rfl hn (Nat.le_of_ble_eq_true rfl) rfl (rp_id ?_)
  unfold FX11_hang
  refine rp_aload_n 0 dX11_hang_0 rfl ?_
  refine rp_getR fi_X11_47 h0 rfl dX11_hang_1 ?_
  refine rp_iload_n 1 dX11_hang_4 rfl ?_
  refine rp_iload_n 2 dX11_hang_5 rfl ?_
  refine rp_iload_n 3 dX11_hang_6 rfl ?_
  refine rp_callVz [.int p1, .int p2, .int p3] (SX4_canHang (hn := hn) (rf a0 5) p1 p2 p3 (tX11_5 h0)) cvX4_canHang (mw (i := 852) (by decide +kernel)) (by omega) (tX11_5 h0) (by decide) rfl rfl rfl (Nat.le_of_ble_eq_true rfl) dX11_hang_7 (fun x1 => ?_)
  refine rp_if_ne 15 dX11_hang_10 (by decide) ?_ ?_
  · refine rp_aload_n 0 dX11_hang_15 rfl ?_
    refine rp_getR fi_X11_57 h0 rfl dX11_hang_16 ?_
    refine rp_aload_n 0 dX11_hang_19 rfl ?_
    refine rp_getR fi_X11_47 h0 rfl dX11_hang_20 ?_
    refine rp_callVv [.ref (K.2.1 + (rf a0 5))] (SX2_keep (hn := hn) (rf a0 7) (rf a0 5) (tX11_7 h0) (tX11_5 h0)) cvX2_keep (mw (i := 862) (by decide +kernel)) (by omega) (tX11_7 h0) (by decide) rfl rfl rfl (Nat.le_of_ble_eq_true rfl) dX11_hang_23 (fun x2 => ?_)
    refine rp_aload_n 0 dX11_hang_26 rfl ?_
    refine rp_getR fi_X11_47 h0 rfl dX11_hang_27 ?_
    refine rp_iload_n 1 dX11_hang_30 rfl ?_
    refine rp_iload_n 2 dX11_hang_31 rfl ?_
    refine rp_iload_n 3 dX11_hang_32 rfl ?_
    refine rp_callVv [.int p1, .int p2, .int p3] (SX4_putUp (hn := hn) (rf a0 5) p1 p2 p3 (tX11_5 h0)) cvX4_putUp (mw (i := 872) (by decide +kernel)) (by omega) (tX11_5 h0) (by decide) rfl rfl rfl (Nat.le_of_ble_eq_true rfl) dX11_hang_33 (fun x3 => ?_)
    refine rp_aload_n 0 dX11_hang_36 rfl ?_
    refine rp_getR fi_X11_47 h0 rfl dX11_hang_37 ?_
    refine rp_iload_n 2 dX11_hang_40 rfl ?_
    refine rp_callVi [.int p2] (SX4_freeOn (hn := hn) (rf a0 5) p2 (tX11_5 h0)) cvX4_freeOn (mw (i := 784) (by decide +kernel)) (by omega) (tX11_5 h0) (by decide) rfl rfl rfl (Nat.le_of_ble_eq_true rfl) dX11_hang_41 (fun x4 => ?_)
    exact rp_pu (rp_iret rfl dX11_hang_44)
  · refine rp_iconst (-1 : Int32) dX11_hang_13 (by decide) ?_
    exact rp_pu (rp_iret rfl dX11_hang_14)

theorem dX11_take_0 : decode cX11_take 0 = .ok (.aload_n 0, 1) := by decide +kernel
theorem dX11_take_1 : decode cX11_take 1 = .ok (.getfield 47, 3) := by decide +kernel
theorem dX11_take_4 : decode cX11_take 4 = .ok (.iload_n 1, 1) := by decide +kernel
theorem dX11_take_5 : decode cX11_take 5 = .ok (.invokevirtual 218, 3) := by decide +kernel
theorem dX11_take_8 : decode cX11_take 8 = .ok (.ifCond .ne 5, 3) := by decide +kernel
theorem dX11_take_11 : decode cX11_take 11 = .ok (.iconst (-1), 1) := by decide +kernel
theorem dX11_take_12 : decode cX11_take 12 = .ok (.ireturn, 1) := by decide +kernel
theorem dX11_take_13 : decode cX11_take 13 = .ok (.aload_n 0, 1) := by decide +kernel
theorem dX11_take_14 : decode cX11_take 14 = .ok (.getfield 57, 3) := by decide +kernel
theorem dX11_take_17 : decode cX11_take 17 = .ok (.aload_n 0, 1) := by decide +kernel
theorem dX11_take_18 : decode cX11_take 18 = .ok (.getfield 47, 3) := by decide +kernel
theorem dX11_take_21 : decode cX11_take 21 = .ok (.invokevirtual 211, 3) := by decide +kernel
theorem dX11_take_24 : decode cX11_take 24 = .ok (.aload_n 0, 1) := by decide +kernel
theorem dX11_take_25 : decode cX11_take 25 = .ok (.getfield 47, 3) := by decide +kernel
theorem dX11_take_28 : decode cX11_take 28 = .ok (.iload_n 1, 1) := by decide +kernel
theorem dX11_take_29 : decode cX11_take 29 = .ok (.invokevirtual 221, 3) := by decide +kernel
theorem dX11_take_32 : decode cX11_take 32 = .ok (.aload_n 0, 1) := by decide +kernel
theorem dX11_take_33 : decode cX11_take 33 = .ok (.getfield 47, 3) := by decide +kernel
theorem dX11_take_36 : decode cX11_take 36 = .ok (.getfield 155, 3) := by decide +kernel
theorem dX11_take_39 : decode cX11_take 39 = .ok (.iload_n 1, 1) := by decide +kernel
theorem dX11_take_40 : decode cX11_take 40 = .ok (.iaload, 1) := by decide +kernel
theorem dX11_take_41 : decode cX11_take 41 = .ok (.ireturn, 1) := by decide +kernel
abbrev mX11_take : MI := (RX11, yX11_take, cX11_take, 2, some .int)
theorem cvX11_take : CV mX11_take 1 := ⟨⟨mw (i := 879) (by decide +kernel), mw (i := 1) (by decide +kernel), ⟨by decide +kernel, by decide +kernel, by decide +kernel⟩, by decide⟩, mw (i := 877) (by decide +kernel), mw (i := 878) (by decide +kernel)⟩
def FX11_take (a0 : Nat) (p1 : Int32) : PP Int32 := bd (FX4_hangs (rf a0 5) p1) (fun x1 => if ((b2i x1)) = 0 then pu (-1 : Int32) else bd (FX2_keep (rf a0 7) (rf a0 5)) (fun (_ : Unit) => bd (FX4_putDown (rf a0 5) p1) (fun (_ : Unit) => bd (aI (rf (rf a0 5) 1) 6 p1) (fun x4 => pu x4))))
set_option maxHeartbeats 4000000 in
set_option maxRecDepth 100000 in
theorem SX11_take {l : Launch} {K : KK} {n : Nat} {hn : 270 ≤ n} (a0 : Nat) (p1 : Int32) (h0 : ob a0 10) : CT l K n 3 mX11_take [.ref (K.2.1 + a0), .int p1] enI (FX11_take a0 p1) := by
  refine CT.of2 (lv2 := [(0, .ref (K.2.1 + a0)), (1, .int p1)]) (by decide) rfl hn (Nat.le_of_ble_eq_true rfl) rfl (rp_id ?_)
  unfold FX11_take
  refine rp_aload_n 0 dX11_take_0 rfl ?_
  refine rp_getR fi_X11_47 h0 rfl dX11_take_1 ?_
  refine rp_iload_n 1 dX11_take_4 rfl ?_
  refine rp_callVz [.int p1] (SX4_hangs (hn := hn) (rf a0 5) p1 (tX11_5 h0)) cvX4_hangs (mw (i := 880) (by decide +kernel)) (by omega) (tX11_5 h0) (by decide) rfl rfl rfl (Nat.le_of_ble_eq_true rfl) dX11_take_5 (fun x1 => ?_)
  refine rp_if_ne 13 dX11_take_8 (by decide) ?_ ?_
  · refine rp_aload_n 0 dX11_take_13 rfl ?_
    refine rp_getR fi_X11_57 h0 rfl dX11_take_14 ?_
    refine rp_aload_n 0 dX11_take_17 rfl ?_
    refine rp_getR fi_X11_47 h0 rfl dX11_take_18 ?_
    refine rp_callVv [.ref (K.2.1 + (rf a0 5))] (SX2_keep (hn := hn) (rf a0 7) (rf a0 5) (tX11_7 h0) (tX11_5 h0)) cvX2_keep (mw (i := 862) (by decide +kernel)) (by omega) (tX11_7 h0) (by decide) rfl rfl rfl (Nat.le_of_ble_eq_true rfl) dX11_take_21 (fun x2 => ?_)
    refine rp_aload_n 0 dX11_take_24 rfl ?_
    refine rp_getR fi_X11_47 h0 rfl dX11_take_25 ?_
    refine rp_iload_n 1 dX11_take_28 rfl ?_
    refine rp_callVv [.int p1] (SX4_putDown (hn := hn) (rf a0 5) p1 (tX11_5 h0)) cvX4_putDown (mw (i := 884) (by decide +kernel)) (by omega) (tX11_5 h0) (by decide) rfl rfl rfl (Nat.le_of_ble_eq_true rfl) dX11_take_29 (fun x3 => ?_)
    refine rp_aload_n 0 dX11_take_32 rfl ?_
    refine rp_getR fi_X11_47 h0 rfl dX11_take_33 ?_
    refine rp_getR fi_X11_155 (tX11_5 h0) rfl dX11_take_36 ?_
    refine rp_iload_n 1 dX11_take_39 rfl ?_
    refine rp_iald (tX4_1 (tX11_5 h0)) dX11_take_40 (fun x4 => ?_)
    exact rp_pu (rp_iret rfl dX11_take_41)
  · refine rp_iconst (-1 : Int32) dX11_take_11 (by decide) ?_
    exact rp_pu (rp_iret rfl dX11_take_12)

theorem dX11_wash_0 : decode cX11_wash 0 = .ok (.aload_n 0, 1) := by decide +kernel
theorem dX11_wash_1 : decode cX11_wash 1 = .ok (.getfield 47, 3) := by decide +kernel
theorem dX11_wash_4 : decode cX11_wash 4 = .ok (.iload_n 1, 1) := by decide +kernel
theorem dX11_wash_5 : decode cX11_wash 5 = .ok (.invokevirtual 225, 3) := by decide +kernel
theorem dX11_wash_8 : decode cX11_wash 8 = .ok (.ifCond .ne 5, 3) := by decide +kernel
theorem dX11_wash_11 : decode cX11_wash 11 = .ok (.iconst 0, 1) := by decide +kernel
theorem dX11_wash_12 : decode cX11_wash 12 = .ok (.ireturn, 1) := by decide +kernel
theorem dX11_wash_13 : decode cX11_wash 13 = .ok (.aload_n 0, 1) := by decide +kernel
theorem dX11_wash_14 : decode cX11_wash 14 = .ok (.getfield 57, 3) := by decide +kernel
theorem dX11_wash_17 : decode cX11_wash 17 = .ok (.aload_n 0, 1) := by decide +kernel
theorem dX11_wash_18 : decode cX11_wash 18 = .ok (.getfield 47, 3) := by decide +kernel
theorem dX11_wash_21 : decode cX11_wash 21 = .ok (.invokevirtual 211, 3) := by decide +kernel
theorem dX11_wash_24 : decode cX11_wash 24 = .ok (.aload_n 0, 1) := by decide +kernel
theorem dX11_wash_25 : decode cX11_wash 25 = .ok (.getfield 47, 3) := by decide +kernel
theorem dX11_wash_28 : decode cX11_wash 28 = .ok (.iload_n 1, 1) := by decide +kernel
theorem dX11_wash_29 : decode cX11_wash 29 = .ok (.invokevirtual 228, 3) := by decide +kernel
theorem dX11_wash_32 : decode cX11_wash 32 = .ok (.iconst 1, 1) := by decide +kernel
theorem dX11_wash_33 : decode cX11_wash 33 = .ok (.ireturn, 1) := by decide +kernel
abbrev mX11_wash : MI := (RX11, yX11_wash, cX11_wash, 2, some .boolean)
theorem cvX11_wash : CV mX11_wash 1 := ⟨⟨mw (i := 891) (by decide +kernel), mw (i := 1) (by decide +kernel), ⟨by decide +kernel, by decide +kernel, by decide +kernel⟩, by decide⟩, mw (i := 889) (by decide +kernel), mw (i := 890) (by decide +kernel)⟩
def FX11_wash (a0 : Nat) (p1 : Int32) : PP Bool := bd (FX4_lies (rf a0 5) p1) (fun x1 => if ((b2i x1)) = 0 then zb (0 : Int32) else bd (FX2_keep (rf a0 7) (rf a0 5)) (fun (_ : Unit) => bd (FX4_soak (rf a0 5) p1) (fun (_ : Unit) => zb (1 : Int32))))
set_option maxHeartbeats 4000000 in
set_option maxRecDepth 100000 in
theorem SX11_wash {l : Launch} {K : KK} {n : Nat} {hn : 270 ≤ n} (a0 : Nat) (p1 : Int32) (h0 : ob a0 10) : CT l K n 3 mX11_wash [.ref (K.2.1 + a0), .int p1] enZ (FX11_wash a0 p1) := by
  refine CT.of2 (lv2 := [(0, .ref (K.2.1 + a0)), (1, .int p1)]) (by decide) rfl hn (Nat.le_of_ble_eq_true rfl) rfl (rp_id ?_)
  unfold FX11_wash
  refine rp_aload_n 0 dX11_wash_0 rfl ?_
  refine rp_getR fi_X11_47 h0 rfl dX11_wash_1 ?_
  refine rp_iload_n 1 dX11_wash_4 rfl ?_
  refine rp_callVz [.int p1] (SX4_lies (hn := hn) (rf a0 5) p1 (tX11_5 h0)) cvX4_lies (mw (i := 892) (by decide +kernel)) (by omega) (tX11_5 h0) (by decide) rfl rfl rfl (Nat.le_of_ble_eq_true rfl) dX11_wash_5 (fun x1 => ?_)
  refine rp_if_ne 13 dX11_wash_8 (by decide) ?_ ?_
  · refine rp_aload_n 0 dX11_wash_13 rfl ?_
    refine rp_getR fi_X11_57 h0 rfl dX11_wash_14 ?_
    refine rp_aload_n 0 dX11_wash_17 rfl ?_
    refine rp_getR fi_X11_47 h0 rfl dX11_wash_18 ?_
    refine rp_callVv [.ref (K.2.1 + (rf a0 5))] (SX2_keep (hn := hn) (rf a0 7) (rf a0 5) (tX11_7 h0) (tX11_5 h0)) cvX2_keep (mw (i := 862) (by decide +kernel)) (by omega) (tX11_7 h0) (by decide) rfl rfl rfl (Nat.le_of_ble_eq_true rfl) dX11_wash_21 (fun x2 => ?_)
    refine rp_aload_n 0 dX11_wash_24 rfl ?_
    refine rp_getR fi_X11_47 h0 rfl dX11_wash_25 ?_
    refine rp_iload_n 1 dX11_wash_28 rfl ?_
    refine rp_callVv [.int p1] (SX4_soak (hn := hn) (rf a0 5) p1 (tX11_5 h0)) cvX4_soak (mw (i := 893) (by decide +kernel)) (by omega) (tX11_5 h0) (by decide) rfl rfl rfl (Nat.le_of_ble_eq_true rfl) dX11_wash_29 (fun x3 => ?_)
    refine rp_iconst (1 : Int32) dX11_wash_32 (by decide) ?_
    exact rp_zretb rfl dX11_wash_33
  · refine rp_iconst (0 : Int32) dX11_wash_11 (by decide) ?_
    exact rp_zretb rfl dX11_wash_12

theorem dX11_hour_0 : decode cX11_hour 0 = .ok (.aload_n 0, 1) := by decide +kernel
theorem dX11_hour_1 : decode cX11_hour 1 = .ok (.getfield 57, 3) := by decide +kernel
theorem dX11_hour_4 : decode cX11_hour 4 = .ok (.aload_n 0, 1) := by decide +kernel
theorem dX11_hour_5 : decode cX11_hour 5 = .ok (.getfield 47, 3) := by decide +kernel
theorem dX11_hour_8 : decode cX11_hour 8 = .ok (.invokevirtual 211, 3) := by decide +kernel
theorem dX11_hour_11 : decode cX11_hour 11 = .ok (.aload_n 0, 1) := by decide +kernel
theorem dX11_hour_12 : decode cX11_hour 12 = .ok (.getfield 47, 3) := by decide +kernel
theorem dX11_hour_15 : decode cX11_hour 15 = .ok (.iconst 1, 1) := by decide +kernel
theorem dX11_hour_16 : decode cX11_hour 16 = .ok (.invokevirtual 231, 3) := by decide +kernel
theorem dX11_hour_19 : decode cX11_hour 19 = .ok (.ireturn, 1) := by decide +kernel
abbrev mX11_hour : MI := (RX11, yX11_hour, cX11_hour, 1, some .int)
theorem cvX11_hour : CV mX11_hour 0 := ⟨⟨mw (i := 900) (by decide +kernel), mw (i := 1) (by decide +kernel), ⟨by decide +kernel, by decide +kernel, by decide +kernel⟩, by decide⟩, mw (i := 898) (by decide +kernel), mw (i := 899) (by decide +kernel)⟩
def FX11_hour (a0 : Nat) : PP Int32 := bd (FX2_keep (rf a0 7) (rf a0 5)) (fun (_ : Unit) => bd (FX4_passHour (rf a0 5) (1 : Int32)) (fun x2 => pu x2))
set_option maxHeartbeats 4000000 in
set_option maxRecDepth 100000 in
theorem SX11_hour {l : Launch} {K : KK} {n : Nat} {hn : 270 ≤ n} (a0 : Nat) (h0 : ob a0 10) : CT l K n 3 mX11_hour [.ref (K.2.1 + a0)] enI (FX11_hour a0) := by
  refine CT.of2 (lv2 := [(0, .ref (K.2.1 + a0))]) (by decide) rfl hn (Nat.le_of_ble_eq_true rfl) rfl (rp_id ?_)
  unfold FX11_hour
  refine rp_aload_n 0 dX11_hour_0 rfl ?_
  refine rp_getR fi_X11_57 h0 rfl dX11_hour_1 ?_
  refine rp_aload_n 0 dX11_hour_4 rfl ?_
  refine rp_getR fi_X11_47 h0 rfl dX11_hour_5 ?_
  refine rp_callVv [.ref (K.2.1 + (rf a0 5))] (SX2_keep (hn := hn) (rf a0 7) (rf a0 5) (tX11_7 h0) (tX11_5 h0)) cvX2_keep (mw (i := 862) (by decide +kernel)) (by omega) (tX11_7 h0) (by decide) rfl rfl rfl (Nat.le_of_ble_eq_true rfl) dX11_hour_8 (fun x1 => ?_)
  refine rp_aload_n 0 dX11_hour_11 rfl ?_
  refine rp_getR fi_X11_47 h0 rfl dX11_hour_12 ?_
  refine rp_iconst (1 : Int32) dX11_hour_15 (by decide) ?_
  refine rp_callVi [.int (1 : Int32)] (SX4_passHour (hn := hn) (rf a0 5) (1 : Int32) (tX11_5 h0)) cvX4_passHour (mw (i := 901) (by decide +kernel)) (by omega) (tX11_5 h0) (by decide) rfl rfl rfl (Nat.le_of_ble_eq_true rfl) dX11_hour_16 (fun x2 => ?_)
  exact rp_pu (rp_iret rfl dX11_hour_19)

theorem dX11_undo_0 : decode cX11_undo 0 = .ok (.aload_n 0, 1) := by decide +kernel
theorem dX11_undo_1 : decode cX11_undo 1 = .ok (.getfield 57, 3) := by decide +kernel
theorem dX11_undo_4 : decode cX11_undo 4 = .ok (.aload_n 0, 1) := by decide +kernel
theorem dX11_undo_5 : decode cX11_undo 5 = .ok (.getfield 47, 3) := by decide +kernel
theorem dX11_undo_8 : decode cX11_undo 8 = .ok (.invokevirtual 235, 3) := by decide +kernel
theorem dX11_undo_11 : decode cX11_undo 11 = .ok (.ireturn, 1) := by decide +kernel
abbrev mX11_undo : MI := (RX11, yX11_undo, cX11_undo, 1, some .boolean)
theorem cvX11_undo : CV mX11_undo 0 := ⟨⟨mw (i := 925) (by decide +kernel), mw (i := 1) (by decide +kernel), ⟨by decide +kernel, by decide +kernel, by decide +kernel⟩, by decide⟩, mw (i := 923) (by decide +kernel), mw (i := 924) (by decide +kernel)⟩
def FX11_undo (a0 : Nat) : PP Bool := bd (FX2_bringBack (rf a0 7) (rf a0 5)) (fun x1 => zb ((b2i x1)))
set_option maxHeartbeats 4000000 in
set_option maxRecDepth 100000 in
theorem SX11_undo {l : Launch} {K : KK} {n : Nat} {hn : 270 ≤ n} (a0 : Nat) (h0 : ob a0 10) : CT l K n 3 mX11_undo [.ref (K.2.1 + a0)] enZ (FX11_undo a0) := by
  refine CT.of2 (lv2 := [(0, .ref (K.2.1 + a0))]) (by decide) rfl hn (Nat.le_of_ble_eq_true rfl) rfl (rp_id ?_)
  unfold FX11_undo
  refine rp_aload_n 0 dX11_undo_0 rfl ?_
  refine rp_getR fi_X11_57 h0 rfl dX11_undo_1 ?_
  refine rp_aload_n 0 dX11_undo_4 rfl ?_
  refine rp_getR fi_X11_47 h0 rfl dX11_undo_5 ?_
  refine rp_callVz [.ref (K.2.1 + (rf a0 5))] (SX2_bringBack (hn := hn) (rf a0 7) (rf a0 5) (tX11_7 h0) (tX11_5 h0)) cvX2_bringBack (mw (i := 926) (by decide +kernel)) (by omega) (tX11_7 h0) (by decide) rfl rfl rfl (Nat.le_of_ble_eq_true rfl) dX11_undo_8 (fun x1 => ?_)
  exact rp_zretb rfl dX11_undo_11

theorem dX11_mark_0 : decode cX11_mark 0 = .ok (.iload_n 1, 1) := by decide +kernel
theorem dX11_mark_1 : decode cX11_mark 1 = .ok (.ifCond .lt 12, 3) := by decide +kernel
theorem dX11_mark_4 : decode cX11_mark 4 = .ok (.iload_n 1, 1) := by decide +kernel
theorem dX11_mark_5 : decode cX11_mark 5 = .ok (.aload_n 0, 1) := by decide +kernel
theorem dX11_mark_6 : decode cX11_mark 6 = .ok (.getfield 79, 3) := by decide +kernel
theorem dX11_mark_9 : decode cX11_mark 9 = .ok (.arraylength, 1) := by decide +kernel
theorem dX11_mark_10 : decode cX11_mark 10 = .ok (.if_icmp .lt 5, 3) := by decide +kernel
theorem dX11_mark_13 : decode cX11_mark 13 = .ok (.iconst 0, 1) := by decide +kernel
theorem dX11_mark_14 : decode cX11_mark 14 = .ok (.ireturn, 1) := by decide +kernel
theorem dX11_mark_15 : decode cX11_mark 15 = .ok (.aload_n 0, 1) := by decide +kernel
theorem dX11_mark_16 : decode cX11_mark 16 = .ok (.getfield 79, 3) := by decide +kernel
theorem dX11_mark_19 : decode cX11_mark 19 = .ok (.iload_n 1, 1) := by decide +kernel
theorem dX11_mark_20 : decode cX11_mark 20 = .ok (.aaload, 1) := by decide +kernel
theorem dX11_mark_21 : decode cX11_mark 21 = .ok (.astore_n 3, 1) := by decide +kernel
theorem dX11_mark_22 : decode cX11_mark 22 = .ok (.iload_n 2, 1) := by decide +kernel
theorem dX11_mark_23 : decode cX11_mark 23 = .ok (.ifCond .ne 21, 3) := by decide +kernel
theorem dX11_mark_26 : decode cX11_mark 26 = .ok (.aload_n 3, 1) := by decide +kernel
theorem dX11_mark_27 : decode cX11_mark 27 = .ok (.aload_n 0, 1) := by decide +kernel
theorem dX11_mark_28 : decode cX11_mark 28 = .ok (.getfield 47, 3) := by decide +kernel
theorem dX11_mark_31 : decode cX11_mark 31 = .ok (.aload_n 0, 1) := by decide +kernel
theorem dX11_mark_32 : decode cX11_mark 32 = .ok (.getfield 66, 3) := by decide +kernel
theorem dX11_mark_35 : decode cX11_mark 35 = .ok (.aload_n 0, 1) := by decide +kernel
theorem dX11_mark_36 : decode cX11_mark 36 = .ok (.getfield 73, 3) := by decide +kernel
theorem dX11_mark_39 : decode cX11_mark 39 = .ok (.invokevirtual 239, 3) := by decide +kernel
theorem dX11_mark_42 : decode cX11_mark 42 = .ok (.iconst 1, 1) := by decide +kernel
theorem dX11_mark_43 : decode cX11_mark 43 = .ok (.ireturn, 1) := by decide +kernel
theorem dX11_mark_44 : decode cX11_mark 44 = .ok (.aload_n 3, 1) := by decide +kernel
theorem dX11_mark_45 : decode cX11_mark 45 = .ok (.getfield 127, 3) := by decide +kernel
theorem dX11_mark_48 : decode cX11_mark 48 = .ok (.ifCond .ne 5, 3) := by decide +kernel
theorem dX11_mark_51 : decode cX11_mark 51 = .ok (.iconst 0, 1) := by decide +kernel
theorem dX11_mark_52 : decode cX11_mark 52 = .ok (.ireturn, 1) := by decide +kernel
theorem dX11_mark_53 : decode cX11_mark 53 = .ok (.aload_n 3, 1) := by decide +kernel
theorem dX11_mark_54 : decode cX11_mark 54 = .ok (.aload_n 0, 1) := by decide +kernel
theorem dX11_mark_55 : decode cX11_mark 55 = .ok (.getfield 47, 3) := by decide +kernel
theorem dX11_mark_58 : decode cX11_mark 58 = .ok (.aload_n 0, 1) := by decide +kernel
theorem dX11_mark_59 : decode cX11_mark 59 = .ok (.getfield 66, 3) := by decide +kernel
theorem dX11_mark_62 : decode cX11_mark 62 = .ok (.aload_n 0, 1) := by decide +kernel
theorem dX11_mark_63 : decode cX11_mark 63 = .ok (.getfield 73, 3) := by decide +kernel
theorem dX11_mark_66 : decode cX11_mark 66 = .ok (.invokevirtual 243, 3) := by decide +kernel
theorem dX11_mark_69 : decode cX11_mark 69 = .ok (.aload_n 0, 1) := by decide +kernel
theorem dX11_mark_70 : decode cX11_mark 70 = .ok (.getfield 57, 3) := by decide +kernel
theorem dX11_mark_73 : decode cX11_mark 73 = .ok (.iconst 0, 1) := by decide +kernel
theorem dX11_mark_74 : decode cX11_mark 74 = .ok (.putfield 126, 3) := by decide +kernel
theorem dX11_mark_77 : decode cX11_mark 77 = .ok (.iconst 1, 1) := by decide +kernel
theorem dX11_mark_78 : decode cX11_mark 78 = .ok (.ireturn, 1) := by decide +kernel
abbrev mX11_mark : MI := (RX11, yX11_mark, cX11_mark, 4, some .boolean)
theorem cvX11_mark : CV mX11_mark 2 := ⟨⟨mw (i := 933) (by decide +kernel), mw (i := 1) (by decide +kernel), ⟨by decide +kernel, by decide +kernel, by decide +kernel⟩, by decide⟩, mw (i := 931) (by decide +kernel), mw (i := 932) (by decide +kernel)⟩
def FX11_mark (a0 : Nat) (p1 : Int32) (p2 : Int32) : PP Bool := if p1 < 0 then zb (0 : Int32) else if p1 < (4 : Int32) then bd (gd (ib p1 4 = true)) (fun (_ : Unit) => if p2 = 0 then bd (FX1_lay (rf (rf a0 10) p1.toNatClampNeg) (rf a0 5) (rf a0 8) (rf a0 9)) (fun (_ : Unit) => zb (1 : Int32)) else bd (gI (rf (rf a0 10) p1.toNatClampNeg) 3) (fun x2 => if x2 = 0 then zb (0 : Int32) else bd (FX1_goBack (rf (rf a0 10) p1.toNatClampNeg) (rf a0 5) (rf a0 8) (rf a0 9)) (fun (_ : Unit) => bd (sI (rf a0 7) 1 (0 : Int32)) (fun (_ : Unit) => zb (1 : Int32))))) else zb (0 : Int32)
set_option maxHeartbeats 4000000 in
set_option maxRecDepth 100000 in
theorem SX11_mark {l : Launch} {K : KK} {n : Nat} {hn : 270 ≤ n} (a0 : Nat) (p1 : Int32) (p2 : Int32) (h0 : ob a0 10) : CT l K n 3 mX11_mark [.ref (K.2.1 + a0), .int p1, .int p2] enZ (FX11_mark a0 p1 p2) := by
  refine CT.of2 (lv2 := [(0, .ref (K.2.1 + a0)), (1, .int p1), (2, .int p2)]) (by decide) rfl hn (Nat.le_of_ble_eq_true rfl) rfl (rp_id ?_)
  unfold FX11_mark
  refine rp_iload_n 1 dX11_mark_0 rfl ?_
  refine rp_if_lt 13 dX11_mark_1 (by decide) ?_ ?_
  · refine rp_iconst (0 : Int32) dX11_mark_13 (by decide) ?_
    exact rp_zretb rfl dX11_mark_14
  · refine rp_iload_n 1 dX11_mark_4 rfl ?_
    refine rp_aload_n 0 dX11_mark_5 rfl ?_
    refine rp_getR fi_X11_79 h0 rfl dX11_mark_6 ?_
    refine rp_alen (v := (4 : Int32)) (tX11_10 h0) rfl rfl dX11_mark_9 ?_
    refine rp_icmp_lt 15 dX11_mark_10 (by decide) ?_ ?_
    · refine rp_aload_n 0 dX11_mark_15 rfl ?_
      refine rp_getR fi_X11_79 h0 rfl dX11_mark_16 ?_
      refine rp_iload_n 1 dX11_mark_19 rfl ?_
      refine rp_aald (tX11_10 h0) (Or.inr rfl) dX11_mark_20 (fun hb1 => ?_)
      refine rp_astore_n [(3, .ref (K.2.1 + (rf (rf a0 10) p1.toNatClampNeg))), (0, .ref (K.2.1 + a0)), (1, .int p1), (2, .int p2)] dX11_mark_21 (by decide) rfl ?_
      refine rp_iload_n 3 dX11_mark_22 rfl ?_
      refine rp_if_ne 44 dX11_mark_23 (by decide) ?_ ?_
      · refine rp_aload_n 0 dX11_mark_44 rfl ?_
        refine rp_getI fi_X11_127 (arr5 (tX11_10 h0) hb1) rfl dX11_mark_45 (fun x2 => ?_)
        refine rp_if_ne 53 dX11_mark_48 (by decide) ?_ ?_
        · refine rp_aload_n 0 dX11_mark_53 rfl ?_
          refine rp_aload_n 1 dX11_mark_54 rfl ?_
          refine rp_getR fi_X11_47 h0 rfl dX11_mark_55 ?_
          refine rp_aload_n 1 dX11_mark_58 rfl ?_
          refine rp_getR fi_X11_66 h0 rfl dX11_mark_59 ?_
          refine rp_aload_n 1 dX11_mark_62 rfl ?_
          refine rp_getR fi_X11_73 h0 rfl dX11_mark_63 ?_
          refine rp_callVv [.ref (K.2.1 + (rf a0 5)), .ref (K.2.1 + (rf a0 8)), .ref (K.2.1 + (rf a0 9))] (SX1_goBack (hn := hn) (rf (rf a0 10) p1.toNatClampNeg) (rf a0 5) (rf a0 8) (rf a0 9) (arr5 (tX11_10 h0) hb1) (tX11_5 h0) (tX11_8 h0) (tX11_9 h0)) cvX1_goBack (mw (i := 945) (by decide +kernel)) (by omega) (arr5 (tX11_10 h0) hb1) (by decide) rfl rfl rfl (Nat.le_of_ble_eq_true rfl) dX11_mark_66 (fun x3 => ?_)
          refine rp_aload_n 1 dX11_mark_69 rfl ?_
          refine rp_getR fi_X11_57 h0 rfl dX11_mark_70 ?_
          refine rp_iconst (0 : Int32) dX11_mark_73 (by decide) ?_
          refine rp_putI fi_X11_126 fp_X2_1 (tX11_7 h0) rfl dX11_mark_74 ?_
          refine rp_iconst (1 : Int32) dX11_mark_77 (by decide) ?_
          exact rp_zretb rfl dX11_mark_78
        · refine rp_iconst (0 : Int32) dX11_mark_51 (by decide) ?_
          exact rp_zretb rfl dX11_mark_52
      · refine rp_aload_n 0 dX11_mark_26 rfl ?_
        refine rp_aload_n 1 dX11_mark_27 rfl ?_
        refine rp_getR fi_X11_47 h0 rfl dX11_mark_28 ?_
        refine rp_aload_n 1 dX11_mark_31 rfl ?_
        refine rp_getR fi_X11_66 h0 rfl dX11_mark_32 ?_
        refine rp_aload_n 1 dX11_mark_35 rfl ?_
        refine rp_getR fi_X11_73 h0 rfl dX11_mark_36 ?_
        refine rp_callVv [.ref (K.2.1 + (rf a0 5)), .ref (K.2.1 + (rf a0 8)), .ref (K.2.1 + (rf a0 9))] (SX1_lay (hn := hn) (rf (rf a0 10) p1.toNatClampNeg) (rf a0 5) (rf a0 8) (rf a0 9) (arr5 (tX11_10 h0) hb1) (tX11_5 h0) (tX11_8 h0) (tX11_9 h0)) cvX1_lay (mw (i := 934) (by decide +kernel)) (by omega) (arr5 (tX11_10 h0) hb1) (by decide) rfl rfl rfl (Nat.le_of_ble_eq_true rfl) dX11_mark_39 (fun x4 => ?_)
        refine rp_iconst (1 : Int32) dX11_mark_42 (by decide) ?_
        exact rp_zretb rfl dX11_mark_43
    · refine rp_iconst (0 : Int32) dX11_mark_13 (by decide) ?_
      exact rp_zretb rfl dX11_mark_14

theorem dJ6_bitCount_0f7a4_0 : decode cJ6_bitCount_0f7a4 0 = .ok (.iload_n 0, 1) := by decide +kernel
theorem dJ6_bitCount_0f7a4_1 : decode cJ6_bitCount_0f7a4 1 = .ok (.iload_n 0, 1) := by decide +kernel
theorem dJ6_bitCount_0f7a4_2 : decode cJ6_bitCount_0f7a4 2 = .ok (.iconst 1, 1) := by decide +kernel
theorem dJ6_bitCount_0f7a4_3 : decode cJ6_bitCount_0f7a4 3 = .ok (.iushr, 1) := by decide +kernel
theorem dJ6_bitCount_0f7a4_4 : decode cJ6_bitCount_0f7a4 4 = .ok (.ldc_w 265, 3) := by decide +kernel
theorem dJ6_bitCount_0f7a4_7 : decode cJ6_bitCount_0f7a4 7 = .ok (.iand, 1) := by decide +kernel
theorem dJ6_bitCount_0f7a4_8 : decode cJ6_bitCount_0f7a4 8 = .ok (.isub, 1) := by decide +kernel
theorem dJ6_bitCount_0f7a4_9 : decode cJ6_bitCount_0f7a4 9 = .ok (.istore_n 0, 1) := by decide +kernel
theorem dJ6_bitCount_0f7a4_10 : decode cJ6_bitCount_0f7a4 10 = .ok (.iload_n 0, 1) := by decide +kernel
theorem dJ6_bitCount_0f7a4_11 : decode cJ6_bitCount_0f7a4 11 = .ok (.ldc_w 266, 3) := by decide +kernel
theorem dJ6_bitCount_0f7a4_14 : decode cJ6_bitCount_0f7a4 14 = .ok (.iand, 1) := by decide +kernel
theorem dJ6_bitCount_0f7a4_15 : decode cJ6_bitCount_0f7a4 15 = .ok (.iload_n 0, 1) := by decide +kernel
theorem dJ6_bitCount_0f7a4_16 : decode cJ6_bitCount_0f7a4 16 = .ok (.iconst 2, 1) := by decide +kernel
theorem dJ6_bitCount_0f7a4_17 : decode cJ6_bitCount_0f7a4 17 = .ok (.iushr, 1) := by decide +kernel
theorem dJ6_bitCount_0f7a4_18 : decode cJ6_bitCount_0f7a4 18 = .ok (.ldc_w 266, 3) := by decide +kernel
theorem dJ6_bitCount_0f7a4_21 : decode cJ6_bitCount_0f7a4 21 = .ok (.iand, 1) := by decide +kernel
theorem dJ6_bitCount_0f7a4_22 : decode cJ6_bitCount_0f7a4 22 = .ok (.iadd, 1) := by decide +kernel
theorem dJ6_bitCount_0f7a4_23 : decode cJ6_bitCount_0f7a4 23 = .ok (.istore_n 0, 1) := by decide +kernel
theorem dJ6_bitCount_0f7a4_24 : decode cJ6_bitCount_0f7a4 24 = .ok (.iload_n 0, 1) := by decide +kernel
theorem dJ6_bitCount_0f7a4_25 : decode cJ6_bitCount_0f7a4 25 = .ok (.iload_n 0, 1) := by decide +kernel
theorem dJ6_bitCount_0f7a4_26 : decode cJ6_bitCount_0f7a4 26 = .ok (.iconst 4, 1) := by decide +kernel
theorem dJ6_bitCount_0f7a4_27 : decode cJ6_bitCount_0f7a4 27 = .ok (.iushr, 1) := by decide +kernel
theorem dJ6_bitCount_0f7a4_28 : decode cJ6_bitCount_0f7a4 28 = .ok (.iadd, 1) := by decide +kernel
theorem dJ6_bitCount_0f7a4_29 : decode cJ6_bitCount_0f7a4 29 = .ok (.ldc_w 267, 3) := by decide +kernel
theorem dJ6_bitCount_0f7a4_32 : decode cJ6_bitCount_0f7a4 32 = .ok (.iand, 1) := by decide +kernel
theorem dJ6_bitCount_0f7a4_33 : decode cJ6_bitCount_0f7a4 33 = .ok (.istore_n 0, 1) := by decide +kernel
theorem dJ6_bitCount_0f7a4_34 : decode cJ6_bitCount_0f7a4 34 = .ok (.iload_n 0, 1) := by decide +kernel
theorem dJ6_bitCount_0f7a4_35 : decode cJ6_bitCount_0f7a4 35 = .ok (.iload_n 0, 1) := by decide +kernel
theorem dJ6_bitCount_0f7a4_36 : decode cJ6_bitCount_0f7a4 36 = .ok (.bipush 8, 2) := by decide +kernel
theorem dJ6_bitCount_0f7a4_38 : decode cJ6_bitCount_0f7a4 38 = .ok (.iushr, 1) := by decide +kernel
theorem dJ6_bitCount_0f7a4_39 : decode cJ6_bitCount_0f7a4 39 = .ok (.iadd, 1) := by decide +kernel
theorem dJ6_bitCount_0f7a4_40 : decode cJ6_bitCount_0f7a4 40 = .ok (.istore_n 0, 1) := by decide +kernel
theorem dJ6_bitCount_0f7a4_41 : decode cJ6_bitCount_0f7a4 41 = .ok (.iload_n 0, 1) := by decide +kernel
theorem dJ6_bitCount_0f7a4_42 : decode cJ6_bitCount_0f7a4 42 = .ok (.iload_n 0, 1) := by decide +kernel
theorem dJ6_bitCount_0f7a4_43 : decode cJ6_bitCount_0f7a4 43 = .ok (.bipush 16, 2) := by decide +kernel
theorem dJ6_bitCount_0f7a4_45 : decode cJ6_bitCount_0f7a4 45 = .ok (.iushr, 1) := by decide +kernel
theorem dJ6_bitCount_0f7a4_46 : decode cJ6_bitCount_0f7a4 46 = .ok (.iadd, 1) := by decide +kernel
theorem dJ6_bitCount_0f7a4_47 : decode cJ6_bitCount_0f7a4 47 = .ok (.istore_n 0, 1) := by decide +kernel
theorem dJ6_bitCount_0f7a4_48 : decode cJ6_bitCount_0f7a4 48 = .ok (.iload_n 0, 1) := by decide +kernel
theorem dJ6_bitCount_0f7a4_49 : decode cJ6_bitCount_0f7a4 49 = .ok (.bipush 63, 2) := by decide +kernel
theorem dJ6_bitCount_0f7a4_51 : decode cJ6_bitCount_0f7a4 51 = .ok (.iand, 1) := by decide +kernel
theorem dJ6_bitCount_0f7a4_52 : decode cJ6_bitCount_0f7a4 52 = .ok (.ireturn, 1) := by decide +kernel
abbrev mJ6_bitCount_0f7a4 : MI := (RJ6, yJ6_bitCount_0f7a4, cJ6_bitCount_0f7a4, 1, some .int)
theorem csJ6_bitCount_0f7a4 : CS mJ6_bitCount_0f7a4 1 := ⟨⟨mw (i := 980) (by decide +kernel), mw (i := 21) (by decide +kernel), ⟨by decide +kernel, by decide +kernel, by decide +kernel⟩, by decide⟩, mw (i := 979) (by decide +kernel)⟩
def FJ6_bitCount_0f7a4 (p1 : Int32) : PP Int32 := lt (p1 - (((p1.toUInt32 >>> ((1 : Int32).toUInt32 &&& Int32.toUInt32 31)).toInt32) &&& (1431655765 : Int32))) (fun y1 => lt ((y1 &&& (858993459 : Int32)) + (((y1.toUInt32 >>> ((2 : Int32).toUInt32 &&& Int32.toUInt32 31)).toInt32) &&& (858993459 : Int32))) (fun y2 => lt ((y2 + ((y2.toUInt32 >>> ((4 : Int32).toUInt32 &&& Int32.toUInt32 31)).toInt32)) &&& (252645135 : Int32)) (fun y3 => lt (y3 + ((y3.toUInt32 >>> ((8 : Int32).toUInt32 &&& Int32.toUInt32 31)).toInt32)) (fun y4 => lt (y4 + ((y4.toUInt32 >>> ((16 : Int32).toUInt32 &&& Int32.toUInt32 31)).toInt32)) (fun y5 => pu (y5 &&& (63 : Int32)))))))
set_option maxHeartbeats 4000000 in
set_option maxRecDepth 100000 in
theorem SJ6_bitCount_0f7a4 {l : Launch} {K : KK} {n : Nat} {hn : 270 ≤ n} (p1 : Int32) : CT l K n 0 mJ6_bitCount_0f7a4 [.int p1] enI (FJ6_bitCount_0f7a4 p1) := by
  refine CT.of2 (lv2 := [(0, .int p1)]) (by decide) rfl hn (Nat.le_of_ble_eq_true rfl) rfl (rp_id ?_)
  unfold FJ6_bitCount_0f7a4
  refine rp_iload_n 0 dJ6_bitCount_0f7a4_0 rfl ?_
  refine rp_iload_n 0 dJ6_bitCount_0f7a4_1 rfl ?_
  refine rp_iconst (1 : Int32) dJ6_bitCount_0f7a4_2 (by decide) ?_
  refine rp_iushr dJ6_bitCount_0f7a4_3 ?_
  refine rp_ldcw (v := 1431655765) (mw (i := 981) (by decide +kernel)) dJ6_bitCount_0f7a4_4 ?_
  refine rp_iand dJ6_bitCount_0f7a4_7 ?_
  refine rp_isub dJ6_bitCount_0f7a4_8 ?_
  refine rp_lti (fun y1 => ?_)
  refine rp_istore_n [(0, .int y1)] dJ6_bitCount_0f7a4_9 (by decide) rfl ?_
  refine rp_iload_n 0 dJ6_bitCount_0f7a4_10 rfl ?_
  refine rp_ldcw (v := 858993459) (mw (i := 982) (by decide +kernel)) dJ6_bitCount_0f7a4_11 ?_
  refine rp_iand dJ6_bitCount_0f7a4_14 ?_
  refine rp_iload_n 0 dJ6_bitCount_0f7a4_15 rfl ?_
  refine rp_iconst (2 : Int32) dJ6_bitCount_0f7a4_16 (by decide) ?_
  refine rp_iushr dJ6_bitCount_0f7a4_17 ?_
  refine rp_ldcw (v := 858993459) (mw (i := 982) (by decide +kernel)) dJ6_bitCount_0f7a4_18 ?_
  refine rp_iand dJ6_bitCount_0f7a4_21 ?_
  refine rp_iadd dJ6_bitCount_0f7a4_22 ?_
  refine rp_lti (fun y2 => ?_)
  refine rp_istore_n [(0, .int y2)] dJ6_bitCount_0f7a4_23 (by decide) rfl ?_
  refine rp_iload_n 0 dJ6_bitCount_0f7a4_24 rfl ?_
  refine rp_iload_n 0 dJ6_bitCount_0f7a4_25 rfl ?_
  refine rp_iconst (4 : Int32) dJ6_bitCount_0f7a4_26 (by decide) ?_
  refine rp_iushr dJ6_bitCount_0f7a4_27 ?_
  refine rp_iadd dJ6_bitCount_0f7a4_28 ?_
  refine rp_ldcw (v := 252645135) (mw (i := 983) (by decide +kernel)) dJ6_bitCount_0f7a4_29 ?_
  refine rp_iand dJ6_bitCount_0f7a4_32 ?_
  refine rp_lti (fun y3 => ?_)
  refine rp_istore_n [(0, .int y3)] dJ6_bitCount_0f7a4_33 (by decide) rfl ?_
  refine rp_iload_n 0 dJ6_bitCount_0f7a4_34 rfl ?_
  refine rp_iload_n 0 dJ6_bitCount_0f7a4_35 rfl ?_
  refine rp_bipush (8 : Int32) dJ6_bitCount_0f7a4_36 (by decide) ?_
  refine rp_iushr dJ6_bitCount_0f7a4_38 ?_
  refine rp_iadd dJ6_bitCount_0f7a4_39 ?_
  refine rp_lti (fun y4 => ?_)
  refine rp_istore_n [(0, .int y4)] dJ6_bitCount_0f7a4_40 (by decide) rfl ?_
  refine rp_iload_n 0 dJ6_bitCount_0f7a4_41 rfl ?_
  refine rp_iload_n 0 dJ6_bitCount_0f7a4_42 rfl ?_
  refine rp_bipush (16 : Int32) dJ6_bitCount_0f7a4_43 (by decide) ?_
  refine rp_iushr dJ6_bitCount_0f7a4_45 ?_
  refine rp_iadd dJ6_bitCount_0f7a4_46 ?_
  refine rp_lti (fun y5 => ?_)
  refine rp_istore_n [(0, .int y5)] dJ6_bitCount_0f7a4_47 (by decide) rfl ?_
  refine rp_iload_n 0 dJ6_bitCount_0f7a4_48 rfl ?_
  refine rp_bipush (63 : Int32) dJ6_bitCount_0f7a4_49 (by decide) ?_
  refine rp_iand dJ6_bitCount_0f7a4_51 ?_
  exact rp_pu (rp_iret rfl dJ6_bitCount_0f7a4_52)

theorem dX11_judged_0 : decode cX11_judged 0 = .ok (.iload_n 1, 1) := by decide +kernel
theorem dX11_judged_1 : decode cX11_judged 1 = .ok (.ifCond .lt 8, 3) := by decide +kernel
theorem dX11_judged_4 : decode cX11_judged 4 = .ok (.iload_n 1, 1) := by decide +kernel
theorem dX11_judged_5 : decode cX11_judged 5 = .ok (.iconst 2, 1) := by decide +kernel
theorem dX11_judged_6 : decode cX11_judged 6 = .ok (.if_icmp .le 6, 3) := by decide +kernel
theorem dX11_judged_9 : decode cX11_judged 9 = .ok (.bipush (-2), 2) := by decide +kernel
theorem dX11_judged_11 : decode cX11_judged 11 = .ok (.ireturn, 1) := by decide +kernel
theorem dX11_judged_12 : decode cX11_judged 12 = .ok (.aload_n 0, 1) := by decide +kernel
theorem dX11_judged_13 : decode cX11_judged 13 = .ok (.getfield 35, 3) := by decide +kernel
theorem dX11_judged_16 : decode cX11_judged 16 = .ok (.aload_n 0, 1) := by decide +kernel
theorem dX11_judged_17 : decode cX11_judged 17 = .ok (.getfield 51, 3) := by decide +kernel
theorem dX11_judged_20 : decode cX11_judged 20 = .ok (.invokevirtual 246, 3) := by decide +kernel
theorem dX11_judged_23 : decode cX11_judged 23 = .ok (.iload_n 1, 1) := by decide +kernel
theorem dX11_judged_24 : decode cX11_judged 24 = .ok (.ifCond .ne 11, 3) := by decide +kernel
theorem dX11_judged_27 : decode cX11_judged 27 = .ok (.aload_n 0, 1) := by decide +kernel
theorem dX11_judged_28 : decode cX11_judged 28 = .ok (.getfield 35, 3) := by decide +kernel
theorem dX11_judged_31 : decode cX11_judged 31 = .ok (.getfield 249, 3) := by decide +kernel
theorem dX11_judged_34 : decode cX11_judged 34 = .ok (.ireturn, 1) := by decide +kernel
theorem dX11_judged_35 : decode cX11_judged 35 = .ok (.iload_n 1, 1) := by decide +kernel
theorem dX11_judged_36 : decode cX11_judged 36 = .ok (.iconst 1, 1) := by decide +kernel
theorem dX11_judged_37 : decode cX11_judged 37 = .ok (.if_icmp .ne 13, 3) := by decide +kernel
theorem dX11_judged_40 : decode cX11_judged 40 = .ok (.aload_n 0, 1) := by decide +kernel
theorem dX11_judged_41 : decode cX11_judged 41 = .ok (.getfield 35, 3) := by decide +kernel
theorem dX11_judged_44 : decode cX11_judged 44 = .ok (.getfield 252, 3) := by decide +kernel
theorem dX11_judged_47 : decode cX11_judged 47 = .ok (.goto 23, 3) := by decide +kernel
theorem dX11_judged_50 : decode cX11_judged 50 = .ok (.aload_n 0, 1) := by decide +kernel
theorem dX11_judged_51 : decode cX11_judged 51 = .ok (.getfield 51, 3) := by decide +kernel
theorem dX11_judged_54 : decode cX11_judged 54 = .ok (.invokevirtual 195, 3) := by decide +kernel
theorem dX11_judged_57 : decode cX11_judged 57 = .ok (.aload_n 0, 1) := by decide +kernel
theorem dX11_judged_58 : decode cX11_judged 58 = .ok (.getfield 51, 3) := by decide +kernel
theorem dX11_judged_61 : decode cX11_judged 61 = .ok (.invokevirtual 198, 3) := by decide +kernel
theorem dX11_judged_64 : decode cX11_judged 64 = .ok (.iconst (-1), 1) := by decide +kernel
theorem dX11_judged_65 : decode cX11_judged 65 = .ok (.ixor, 1) := by decide +kernel
theorem dX11_judged_66 : decode cX11_judged 66 = .ok (.iand, 1) := by decide +kernel
theorem dX11_judged_67 : decode cX11_judged 67 = .ok (.invokestatic 255, 3) := by decide +kernel
theorem dX11_judged_70 : decode cX11_judged 70 = .ok (.ireturn, 1) := by decide +kernel
abbrev mX11_judged : MI := (RX11, yX11_judged, cX11_judged, 2, some .int)
theorem cvX11_judged : CV mX11_judged 1 := ⟨⟨mw (i := 957) (by decide +kernel), mw (i := 1) (by decide +kernel), ⟨by decide +kernel, by decide +kernel, by decide +kernel⟩, by decide⟩, mw (i := 955) (by decide +kernel), mw (i := 956) (by decide +kernel)⟩
def FX11_judged (a0 : Nat) (p1 : Int32) : PP Int32 := if p1 < 0 then pu (-2 : Int32) else if p1 ≤ (2 : Int32) then bd (FX3_judge (rf a0 3) (rf a0 6)) (fun (_ : Unit) => if p1 = 0 then bd (gI (rf a0 3) 5) (fun x7 => pu x7) else bd (if p1 = (1 : Int32) then bd (gI (rf a0 3) 6) (fun x5 => pu x5) else bd (FX4_hanging (rf a0 6)) (fun x2 => bd (FX4_wetOnes (rf a0 6)) (fun x3 => bd (FJ6_bitCount_0f7a4 (x2 &&& (x3 ^^^ (-1 : Int32)))) (fun x4 => pu x4))) : PP (Int32)) (fun (v6 : Int32) => pu v6)) else pu (-2 : Int32)
set_option maxHeartbeats 4000000 in
set_option maxRecDepth 100000 in
theorem SX11_judged {l : Launch} {K : KK} {n : Nat} {hn : 270 ≤ n} (a0 : Nat) (p1 : Int32) (h0 : ob a0 10) : CT l K n 5 mX11_judged [.ref (K.2.1 + a0), .int p1] enI (FX11_judged a0 p1) := by
  refine CT.of2 (lv2 := [(0, .ref (K.2.1 + a0)), (1, .int p1)]) (by decide) rfl hn (Nat.le_of_ble_eq_true rfl) rfl (rp_id ?_)
  unfold FX11_judged
  refine rp_iload_n 1 dX11_judged_0 rfl ?_
  refine rp_if_lt 9 dX11_judged_1 (by decide) ?_ ?_
  · refine rp_bipush (-2 : Int32) dX11_judged_9 (by decide) ?_
    exact rp_pu (rp_iret rfl dX11_judged_11)
  · refine rp_iload_n 1 dX11_judged_4 rfl ?_
    refine rp_iconst (2 : Int32) dX11_judged_5 (by decide) ?_
    refine rp_icmp_le 12 dX11_judged_6 (by decide) ?_ ?_
    · refine rp_aload_n 0 dX11_judged_12 rfl ?_
      refine rp_getR fi_X11_35 h0 rfl dX11_judged_13 ?_
      refine rp_aload_n 0 dX11_judged_16 rfl ?_
      refine rp_getR fi_X11_51 h0 rfl dX11_judged_17 ?_
      refine rp_callVv [.ref (K.2.1 + (rf a0 6))] (SX3_judge (hn := hn) (rf a0 3) (rf a0 6) (tX11_3 h0) (tX11_6 h0)) cvX3_judge (mw (i := 958) (by decide +kernel)) (by omega) (tX11_3 h0) (by decide) rfl rfl rfl (Nat.le_of_ble_eq_true rfl) dX11_judged_20 (fun x1 => ?_)
      refine rp_iload_n 1 dX11_judged_23 rfl ?_
      refine rp_if_ne 35 dX11_judged_24 (by decide) ?_ ?_
      · refine rp_iload_n 1 dX11_judged_35 rfl ?_
        refine rp_iconst (1 : Int32) dX11_judged_36 (by decide) ?_
        refine rp_as ?_
        refine rp_join 70 (fun (v6 : Int32) => []) (fun v6 => [.int v6]) (fun v6 => ?_) (fun hJ70 => ?_)
        · exact rp_pu (rp_iret rfl dX11_judged_70)
        refine rp_icmp_ne 50 dX11_judged_37 (by decide) ?_ ?_
        · refine rp_aload_n 0 dX11_judged_50 rfl ?_
          refine rp_getR fi_X11_51 h0 rfl dX11_judged_51 ?_
          refine rp_callVi [] (SX4_hanging (hn := hn) (rf a0 6) (tX11_6 h0)) cvX4_hanging (mw (i := 831) (by decide +kernel)) (by omega) (tX11_6 h0) (by decide) rfl rfl rfl (Nat.le_of_ble_eq_true rfl) dX11_judged_54 (fun x2 => ?_)
          refine rp_aload_n 0 dX11_judged_57 rfl ?_
          refine rp_getR fi_X11_51 h0 rfl dX11_judged_58 ?_
          refine rp_callVi [] (SX4_wetOnes (hn := hn) (rf a0 6) (tX11_6 h0)) cvX4_wetOnes (mw (i := 835) (by decide +kernel)) (by omega) (tX11_6 h0) (by decide) rfl rfl rfl (Nat.le_of_ble_eq_true rfl) dX11_judged_61 (fun x3 => ?_)
          refine rp_iconst (-1 : Int32) dX11_judged_64 (by decide) ?_
          refine rp_ixor dX11_judged_65 ?_
          refine rp_iand dX11_judged_66 ?_
          refine rp_callSi [.int (x2 &&& (x3 ^^^ (-1 : Int32)))] (SJ6_bitCount_0f7a4 (hn := hn) (x2 &&& (x3 ^^^ (-1 : Int32)))) csJ6_bitCount_0f7a4 (mw (i := 978) (by decide +kernel)) (by omega) rfl rfl (Nat.le_of_ble_eq_true rfl) dX11_judged_67 (fun x4 => ?_)
          exact rp_sub [] rfl (rp_pu (hJ70 x4))
        · refine rp_aload_n 0 dX11_judged_40 rfl ?_
          refine rp_getR fi_X11_35 h0 rfl dX11_judged_41 ?_
          refine rp_getI fi_X11_252 (tX11_3 h0) rfl dX11_judged_44 (fun x5 => ?_)
          refine rp_goto 70 dX11_judged_47 (by decide) ?_
          exact rp_sub [] rfl (rp_pu (hJ70 x5))
      · refine rp_aload_n 0 dX11_judged_27 rfl ?_
        refine rp_getR fi_X11_35 h0 rfl dX11_judged_28 ?_
        refine rp_getI fi_X11_249 (tX11_3 h0) rfl dX11_judged_31 (fun x7 => ?_)
        exact rp_pu (rp_iret rfl dX11_judged_34)
    · refine rp_bipush (-2 : Int32) dX11_judged_9 (by decide) ?_
      exact rp_pu (rp_iret rfl dX11_judged_11)

theorem dX11_later_0 : decode cX11_later 0 = .ok (.aload_n 0, 1) := by decide +kernel
theorem dX11_later_1 : decode cX11_later 1 = .ok (.getfield 19, 3) := by decide +kernel
theorem dX11_later_4 : decode cX11_later 4 = .ok (.iload_n 1, 1) := by decide +kernel
theorem dX11_later_5 : decode cX11_later 5 = .ok (.invokevirtual 167, 3) := by decide +kernel
theorem dX11_later_8 : decode cX11_later 8 = .ok (.ifCond .eq 13, 3) := by decide +kernel
theorem dX11_later_11 : decode cX11_later 11 = .ok (.iload_n 2, 1) := by decide +kernel
theorem dX11_later_12 : decode cX11_later 12 = .ok (.ifCond .lt 9, 3) := by decide +kernel
theorem dX11_later_15 : decode cX11_later 15 = .ok (.iload_n 2, 1) := by decide +kernel
theorem dX11_later_16 : decode cX11_later 16 = .ok (.bipush 40, 2) := by decide +kernel
theorem dX11_later_18 : decode cX11_later 18 = .ok (.if_icmp .le 6, 3) := by decide +kernel
theorem dX11_later_21 : decode cX11_later 21 = .ok (.bipush (-2), 2) := by decide +kernel
theorem dX11_later_23 : decode cX11_later 23 = .ok (.ireturn, 1) := by decide +kernel
theorem dX11_later_24 : decode cX11_later 24 = .ok (.aload_n 0, 1) := by decide +kernel
theorem dX11_later_25 : decode cX11_later 25 = .ok (.getfield 51, 3) := by decide +kernel
theorem dX11_later_28 : decode cX11_later 28 = .ok (.aload_n 0, 1) := by decide +kernel
theorem dX11_later_29 : decode cX11_later 29 = .ok (.getfield 47, 3) := by decide +kernel
theorem dX11_later_32 : decode cX11_later 32 = .ok (.invokevirtual 260, 3) := by decide +kernel
theorem dX11_later_35 : decode cX11_later 35 = .ok (.iconst 0, 1) := by decide +kernel
theorem dX11_later_36 : decode cX11_later 36 = .ok (.istore_n 3, 1) := by decide +kernel
theorem dX11_later_37 : decode cX11_later 37 = .ok (.iload_n 3, 1) := by decide +kernel
theorem dX11_later_38 : decode cX11_later 38 = .ok (.iload_n 2, 1) := by decide +kernel
theorem dX11_later_39 : decode cX11_later 39 = .ok (.if_icmp .ge 18, 3) := by decide +kernel
theorem dX11_later_42 : decode cX11_later 42 = .ok (.aload_n 0, 1) := by decide +kernel
theorem dX11_later_43 : decode cX11_later 43 = .ok (.getfield 51, 3) := by decide +kernel
theorem dX11_later_46 : decode cX11_later 46 = .ok (.iconst 1, 1) := by decide +kernel
theorem dX11_later_47 : decode cX11_later 47 = .ok (.invokevirtual 231, 3) := by decide +kernel
theorem dX11_later_50 : decode cX11_later 50 = .ok (.pop, 1) := by decide +kernel
theorem dX11_later_51 : decode cX11_later 51 = .ok (.iinc 3 1, 3) := by decide +kernel
theorem dX11_later_54 : decode cX11_later 54 = .ok (.goto (-17), 3) := by decide +kernel
theorem dX11_later_57 : decode cX11_later 57 = .ok (.aload_n 0, 1) := by decide +kernel
theorem dX11_later_58 : decode cX11_later 58 = .ok (.getfield 51, 3) := by decide +kernel
theorem dX11_later_61 : decode cX11_later 61 = .ok (.iload_n 1, 1) := by decide +kernel
theorem dX11_later_62 : decode cX11_later 62 = .ok (.iconst 0, 1) := by decide +kernel
theorem dX11_later_63 : decode cX11_later 63 = .ok (.invokevirtual 170, 3) := by decide +kernel
theorem dX11_later_66 : decode cX11_later 66 = .ok (.ireturn, 1) := by decide +kernel
abbrev mX11_later : MI := (RX11, yX11_later, cX11_later, 4, some .int)
theorem cvX11_later : CV mX11_later 2 := ⟨⟨mw (i := 987) (by decide +kernel), mw (i := 1) (by decide +kernel), ⟨by decide +kernel, by decide +kernel, by decide +kernel⟩, by decide⟩, mw (i := 985) (by decide +kernel), mw (i := 986) (by decide +kernel)⟩
def FX11_later (a0 : Nat) (p1 : Int32) (p2 : Int32) : PP Int32 := bd (FX7_hasPlace (rf a0 1) p1) (fun x1 => if ((b2i x1)) = 0 then pu (-2 : Int32) else if p2 < 0 then pu (-2 : Int32) else if p2 ≤ (40 : Int32) then bd (FX4_copyFrom (rf a0 6) (rf a0 5)) (fun (_ : Unit) => bd (it (fun (s3 : Int32) => (if p2 ≤ s3 then pu (Sum.inr ()) else bd (FX4_passHour (rf a0 6) (1 : Int32)) (fun x4 => lt (s3 + (1 : Int32)) (fun y5 => pu (Sum.inl y5))) : PP ((Int32) ⊕ (Unit)))) FU (0 : Int32)) (fun (v6 : Unit) => bd (FX4_weather (rf a0 6) p1 (0 : Int32)) (fun x7 => pu x7))) else pu (-2 : Int32))
set_option maxHeartbeats 4000000 in
set_option maxRecDepth 100000 in
theorem SX11_later {l : Launch} {K : KK} {n : Nat} {hn : 270 ≤ n} (a0 : Nat) (p1 : Int32) (p2 : Int32) (h0 : ob a0 10) : CT l K n 3 mX11_later [.ref (K.2.1 + a0), .int p1, .int p2] enI (FX11_later a0 p1 p2) := by
  refine CT.of2 (lv2 := [(0, .ref (K.2.1 + a0)), (1, .int p1), (2, .int p2)]) (by decide) rfl hn (Nat.le_of_ble_eq_true rfl) rfl (rp_id ?_)
  unfold FX11_later
  refine rp_aload_n 0 dX11_later_0 rfl ?_
  refine rp_getR fi_X11_19 h0 rfl dX11_later_1 ?_
  refine rp_iload_n 1 dX11_later_4 rfl ?_
  refine rp_callVz [.int p1] (SX7_hasPlace (hn := hn) (rf a0 1) p1 (tX11_1 h0)) cvX7_hasPlace (mw (i := 804) (by decide +kernel)) (by omega) (tX11_1 h0) (by decide) rfl rfl rfl (Nat.le_of_ble_eq_true rfl) dX11_later_5 (fun x1 => ?_)
  refine rp_if_eq 21 dX11_later_8 (by decide) ?_ ?_
  · refine rp_bipush (-2 : Int32) dX11_later_21 (by decide) ?_
    exact rp_pu (rp_iret rfl dX11_later_23)
  · refine rp_iload_n 2 dX11_later_11 rfl ?_
    refine rp_if_lt 21 dX11_later_12 (by decide) ?_ ?_
    · refine rp_bipush (-2 : Int32) dX11_later_21 (by decide) ?_
      exact rp_pu (rp_iret rfl dX11_later_23)
    · refine rp_iload_n 2 dX11_later_15 rfl ?_
      refine rp_bipush (40 : Int32) dX11_later_16 (by decide) ?_
      refine rp_icmp_le 24 dX11_later_18 (by decide) ?_ ?_
      · refine rp_aload_n 0 dX11_later_24 rfl ?_
        refine rp_getR fi_X11_51 h0 rfl dX11_later_25 ?_
        refine rp_aload_n 0 dX11_later_28 rfl ?_
        refine rp_getR fi_X11_47 h0 rfl dX11_later_29 ?_
        refine rp_callVv [.ref (K.2.1 + (rf a0 5))] (SX4_copyFrom (hn := hn) (rf a0 6) (rf a0 5) (tX11_6 h0) (tX11_5 h0)) cvX4_copyFrom (mw (i := 988) (by decide +kernel)) (by omega) (tX11_6 h0) (by decide) rfl rfl rfl (Nat.le_of_ble_eq_true rfl) dX11_later_32 (fun x2 => ?_)
        refine rp_iconst (0 : Int32) dX11_later_35 (by decide) ?_
        refine rp_istore_n [(3, .int (0 : Int32)), (0, .ref (K.2.1 + a0)), (1, .int p1), (2, .int p2)] dX11_later_36 (by decide) rfl ?_
        refine rp_as ?_
        refine rp_join 57 (fun v6 => [(0, .ref (K.2.1 + a0)), (1, .int p1)]) (fun _ => []) (fun v6 => ?_) (fun hX37_0 => ?_)
        · refine rp_aload_n 0 dX11_later_57 rfl ?_
          refine rp_getR fi_X11_51 h0 rfl dX11_later_58 ?_
          refine rp_iload_n 1 dX11_later_61 rfl ?_
          refine rp_iconst (0 : Int32) dX11_later_62 (by decide) ?_
          refine rp_callVi [.int p1, .int (0 : Int32)] (SX4_weather (hn := hn) (rf a0 6) p1 (0 : Int32) (tX11_6 h0)) cvX4_weather (mw (i := 808) (by decide +kernel)) (by omega) (tX11_6 h0) (by decide) rfl rfl rfl (Nat.le_of_ble_eq_true rfl) dX11_later_63 (fun x7 => ?_)
          exact rp_pu (rp_iret rfl dX11_later_66)
        refine rp_sub [1, 2, 3, 0] rfl (rp_it (fun (s3 : Int32) => [(0, .ref (K.2.1 + a0)), (1, .int p1), (2, .int p2), (3, .int s3)]) (fun N37 ih37 s3 => ?_) FU (0 : Int32))
        refine rp_iload_n 3 dX11_later_37 rfl ?_
        refine rp_iload_n 2 dX11_later_38 rfl ?_
        refine rp_icmp_ge 57 dX11_later_39 (by decide) ?_ ?_
        · exact rp_sub [0, 1] rfl (rp_pu (hX37_0 ()))
        · refine rp_aload_n 0 dX11_later_42 rfl ?_
          refine rp_getR fi_X11_51 h0 rfl dX11_later_43 ?_
          refine rp_iconst (1 : Int32) dX11_later_46 (by decide) ?_
          refine rp_callVi [.int (1 : Int32)] (SX4_passHour (hn := hn) (rf a0 6) (1 : Int32) (tX11_6 h0)) cvX4_passHour (mw (i := 901) (by decide +kernel)) (by omega) (tX11_6 h0) (by decide) rfl rfl rfl (Nat.le_of_ble_eq_true rfl) dX11_later_47 (fun x4 => ?_)
          refine rp_pop dX11_later_50 rfl ?_
          refine rp_iinc (fun y5 => [(3, .int y5), (0, .ref (K.2.1 + a0)), (1, .int p1), (2, .int p2)]) 3 dX11_later_51 rfl (by rfl) (by decide) (fun y5 => rfl) (fun y5 => ?_)
          refine rp_goto 37 dX11_later_54 (by decide) ?_
          exact rp_sub [1, 2, 3, 0] rfl (ih37 y5)
      · refine rp_bipush (-2 : Int32) dX11_later_21 (by decide) ?_
        exact rp_pu (rp_iret rfl dX11_later_23)

theorem dX11_dry_0 : decode cX11_dry 0 = .ok (.aload_n 0, 1) := by decide +kernel
theorem dX11_dry_1 : decode cX11_dry 1 = .ok (.getfield 47, 3) := by decide +kernel
theorem dX11_dry_4 : decode cX11_dry 4 = .ok (.iload_n 1, 1) := by decide +kernel
theorem dX11_dry_5 : decode cX11_dry 5 = .ok (.invokevirtual 218, 3) := by decide +kernel
theorem dX11_dry_8 : decode cX11_dry 8 = .ok (.ifCond .ne 5, 3) := by decide +kernel
theorem dX11_dry_11 : decode cX11_dry 11 = .ok (.iconst (-1), 1) := by decide +kernel
theorem dX11_dry_12 : decode cX11_dry 12 = .ok (.ireturn, 1) := by decide +kernel
theorem dX11_dry_13 : decode cX11_dry 13 = .ok (.aload_n 0, 1) := by decide +kernel
theorem dX11_dry_14 : decode cX11_dry 14 = .ok (.getfield 51, 3) := by decide +kernel
theorem dX11_dry_17 : decode cX11_dry 17 = .ok (.aload_n 0, 1) := by decide +kernel
theorem dX11_dry_18 : decode cX11_dry 18 = .ok (.getfield 47, 3) := by decide +kernel
theorem dX11_dry_21 : decode cX11_dry 21 = .ok (.invokevirtual 260, 3) := by decide +kernel
theorem dX11_dry_24 : decode cX11_dry 24 = .ok (.iconst 0, 1) := by decide +kernel
theorem dX11_dry_25 : decode cX11_dry 25 = .ok (.istore_n 2, 1) := by decide +kernel
theorem dX11_dry_26 : decode cX11_dry 26 = .ok (.iload_n 2, 1) := by decide +kernel
theorem dX11_dry_27 : decode cX11_dry 27 = .ok (.bipush 40, 2) := by decide +kernel
theorem dX11_dry_29 : decode cX11_dry 29 = .ok (.if_icmp .gt 32, 3) := by decide +kernel
theorem dX11_dry_32 : decode cX11_dry 32 = .ok (.aload_n 0, 1) := by decide +kernel
theorem dX11_dry_33 : decode cX11_dry 33 = .ok (.getfield 51, 3) := by decide +kernel
theorem dX11_dry_36 : decode cX11_dry 36 = .ok (.getfield 155, 3) := by decide +kernel
theorem dX11_dry_39 : decode cX11_dry 39 = .ok (.iload_n 1, 1) := by decide +kernel
theorem dX11_dry_40 : decode cX11_dry 40 = .ok (.iaload, 1) := by decide +kernel
theorem dX11_dry_41 : decode cX11_dry 41 = .ok (.ifCond .ne 5, 3) := by decide +kernel
theorem dX11_dry_44 : decode cX11_dry 44 = .ok (.iload_n 2, 1) := by decide +kernel
theorem dX11_dry_45 : decode cX11_dry 45 = .ok (.ireturn, 1) := by decide +kernel
theorem dX11_dry_46 : decode cX11_dry 46 = .ok (.aload_n 0, 1) := by decide +kernel
theorem dX11_dry_47 : decode cX11_dry 47 = .ok (.getfield 51, 3) := by decide +kernel
theorem dX11_dry_50 : decode cX11_dry 50 = .ok (.iconst 1, 1) := by decide +kernel
theorem dX11_dry_51 : decode cX11_dry 51 = .ok (.invokevirtual 231, 3) := by decide +kernel
theorem dX11_dry_54 : decode cX11_dry 54 = .ok (.pop, 1) := by decide +kernel
theorem dX11_dry_55 : decode cX11_dry 55 = .ok (.iinc 2 1, 3) := by decide +kernel
theorem dX11_dry_58 : decode cX11_dry 58 = .ok (.goto (-32), 3) := by decide +kernel
theorem dX11_dry_61 : decode cX11_dry 61 = .ok (.iconst (-1), 1) := by decide +kernel
theorem dX11_dry_62 : decode cX11_dry 62 = .ok (.ireturn, 1) := by decide +kernel
abbrev mX11_dry : MI := (RX11, yX11_dry, cX11_dry, 3, some .int)
theorem cvX11_dry : CV mX11_dry 1 := ⟨⟨mw (i := 992) (by decide +kernel), mw (i := 1) (by decide +kernel), ⟨by decide +kernel, by decide +kernel, by decide +kernel⟩, by decide⟩, mw (i := 990) (by decide +kernel), mw (i := 991) (by decide +kernel)⟩
def FX11_dry (a0 : Nat) (p1 : Int32) : PP Int32 := bd (FX4_hangs (rf a0 5) p1) (fun x1 => if ((b2i x1)) = 0 then pu (-1 : Int32) else bd (FX4_copyFrom (rf a0 6) (rf a0 5)) (fun (_ : Unit) => bd (it (fun (s3 : Int32) => (if (40 : Int32) < s3 then pu (Sum.inr (Sum.inl ())) else bd (aI (rf (rf a0 6) 1) 6 p1) (fun x4 => if x4 = 0 then pu (Sum.inr (Sum.inr (s3))) else bd (FX4_passHour (rf a0 6) (1 : Int32)) (fun x5 => lt (s3 + (1 : Int32)) (fun y6 => pu (Sum.inl y6)))) : PP ((Int32) ⊕ ((Unit) ⊕ (Int32))))) FU (0 : Int32)) (Sum.elim (fun (v7 : Unit) => pu (-1 : Int32)) (fun (v8 : Int32) => pu v8))))
set_option maxHeartbeats 4000000 in
set_option maxRecDepth 100000 in
theorem SX11_dry {l : Launch} {K : KK} {n : Nat} {hn : 270 ≤ n} (a0 : Nat) (p1 : Int32) (h0 : ob a0 10) : CT l K n 3 mX11_dry [.ref (K.2.1 + a0), .int p1] enI (FX11_dry a0 p1) := by
  refine CT.of2 (lv2 := [(0, .ref (K.2.1 + a0)), (1, .int p1)]) (by decide) rfl hn (Nat.le_of_ble_eq_true rfl) rfl (rp_id ?_)
  unfold FX11_dry
  refine rp_aload_n 0 dX11_dry_0 rfl ?_
  refine rp_getR fi_X11_47 h0 rfl dX11_dry_1 ?_
  refine rp_iload_n 1 dX11_dry_4 rfl ?_
  refine rp_callVz [.int p1] (SX4_hangs (hn := hn) (rf a0 5) p1 (tX11_5 h0)) cvX4_hangs (mw (i := 880) (by decide +kernel)) (by omega) (tX11_5 h0) (by decide) rfl rfl rfl (Nat.le_of_ble_eq_true rfl) dX11_dry_5 (fun x1 => ?_)
  refine rp_if_ne 13 dX11_dry_8 (by decide) ?_ ?_
  · refine rp_aload_n 0 dX11_dry_13 rfl ?_
    refine rp_getR fi_X11_51 h0 rfl dX11_dry_14 ?_
    refine rp_aload_n 0 dX11_dry_17 rfl ?_
    refine rp_getR fi_X11_47 h0 rfl dX11_dry_18 ?_
    refine rp_callVv [.ref (K.2.1 + (rf a0 5))] (SX4_copyFrom (hn := hn) (rf a0 6) (rf a0 5) (tX11_6 h0) (tX11_5 h0)) cvX4_copyFrom (mw (i := 988) (by decide +kernel)) (by omega) (tX11_6 h0) (by decide) rfl rfl rfl (Nat.le_of_ble_eq_true rfl) dX11_dry_21 (fun x2 => ?_)
    refine rp_iconst (0 : Int32) dX11_dry_24 (by decide) ?_
    refine rp_istore_n [(2, .int (0 : Int32)), (0, .ref (K.2.1 + a0)), (1, .int p1)] dX11_dry_25 (by decide) rfl ?_
    refine rp_as ?_
    refine rp_join2 61 (fun v7 => []) (fun _ => []) 44 (fun v8 => [(2, .int v8)]) (fun _ => []) (fun v7 => ?_) (fun v8 => ?_) (fun hX26_0 hX26_1 => ?_)
    · refine rp_iconst (-1 : Int32) dX11_dry_61 (by decide) ?_
      exact rp_pu (rp_iret rfl dX11_dry_62)
    · refine rp_iload_n 0 dX11_dry_44 rfl ?_
      exact rp_pu (rp_iret rfl dX11_dry_45)
    refine rp_sub [1, 2, 0] rfl (rp_it (fun (s3 : Int32) => [(0, .ref (K.2.1 + a0)), (1, .int p1), (2, .int s3)]) (fun N26 ih26 s3 => ?_) FU (0 : Int32))
    refine rp_iload_n 2 dX11_dry_26 rfl ?_
    refine rp_bipush (40 : Int32) dX11_dry_27 (by decide) ?_
    refine rp_icmp_gt 61 dX11_dry_29 (by decide) ?_ ?_
    · exact rp_sub [] rfl (rp_pu (hX26_0 ()))
    · refine rp_aload_n 0 dX11_dry_32 rfl ?_
      refine rp_getR fi_X11_51 h0 rfl dX11_dry_33 ?_
      refine rp_getR fi_X11_155 (tX11_6 h0) rfl dX11_dry_36 ?_
      refine rp_iload_n 1 dX11_dry_39 rfl ?_
      refine rp_iald (tX4_1 (tX11_6 h0)) dX11_dry_40 (fun x4 => ?_)
      refine rp_if_ne 46 dX11_dry_41 (by decide) ?_ ?_
      · refine rp_aload_n 0 dX11_dry_46 rfl ?_
        refine rp_getR fi_X11_51 h0 rfl dX11_dry_47 ?_
        refine rp_iconst (1 : Int32) dX11_dry_50 (by decide) ?_
        refine rp_callVi [.int (1 : Int32)] (SX4_passHour (hn := hn) (rf a0 6) (1 : Int32) (tX11_6 h0)) cvX4_passHour (mw (i := 901) (by decide +kernel)) (by omega) (tX11_6 h0) (by decide) rfl rfl rfl (Nat.le_of_ble_eq_true rfl) dX11_dry_51 (fun x5 => ?_)
        refine rp_pop dX11_dry_54 rfl ?_
        refine rp_iinc (fun y6 => [(2, .int y6), (0, .ref (K.2.1 + a0)), (1, .int p1)]) 2 dX11_dry_55 rfl (by rfl) (by decide) (fun y6 => rfl) (fun y6 => ?_)
        refine rp_goto 26 dX11_dry_58 (by decide) ?_
        exact rp_sub [1, 2, 0] rfl (ih26 y6)
      · exact rp_sub [2] rfl (rp_pu (hX26_1 s3))
  · refine rp_iconst (-1 : Int32) dX11_dry_11 (by decide) ?_
    exact rp_pu (rp_iret rfl dX11_dry_12)

theorem dX11_clears_0 : decode cX11_clears 0 = .ok (.aload_n 0, 1) := by decide +kernel
theorem dX11_clears_1 : decode cX11_clears 1 = .ok (.getfield 19, 3) := by decide +kernel
theorem dX11_clears_4 : decode cX11_clears 4 = .ok (.iload_n 1, 1) := by decide +kernel
theorem dX11_clears_5 : decode cX11_clears 5 = .ok (.invokevirtual 167, 3) := by decide +kernel
theorem dX11_clears_8 : decode cX11_clears 8 = .ok (.ifCond .ne 5, 3) := by decide +kernel
theorem dX11_clears_11 : decode cX11_clears 11 = .ok (.iconst (-1), 1) := by decide +kernel
theorem dX11_clears_12 : decode cX11_clears 12 = .ok (.ireturn, 1) := by decide +kernel
theorem dX11_clears_13 : decode cX11_clears 13 = .ok (.aload_n 0, 1) := by decide +kernel
theorem dX11_clears_14 : decode cX11_clears 14 = .ok (.getfield 51, 3) := by decide +kernel
theorem dX11_clears_17 : decode cX11_clears 17 = .ok (.aload_n 0, 1) := by decide +kernel
theorem dX11_clears_18 : decode cX11_clears 18 = .ok (.getfield 47, 3) := by decide +kernel
theorem dX11_clears_21 : decode cX11_clears 21 = .ok (.invokevirtual 260, 3) := by decide +kernel
theorem dX11_clears_24 : decode cX11_clears 24 = .ok (.iconst 0, 1) := by decide +kernel
theorem dX11_clears_25 : decode cX11_clears 25 = .ok (.istore_n 2, 1) := by decide +kernel
theorem dX11_clears_26 : decode cX11_clears 26 = .ok (.iload_n 2, 1) := by decide +kernel
theorem dX11_clears_27 : decode cX11_clears 27 = .ok (.bipush 40, 2) := by decide +kernel
theorem dX11_clears_29 : decode cX11_clears 29 = .ok (.if_icmp .gt 33, 3) := by decide +kernel
theorem dX11_clears_32 : decode cX11_clears 32 = .ok (.aload_n 0, 1) := by decide +kernel
theorem dX11_clears_33 : decode cX11_clears 33 = .ok (.getfield 51, 3) := by decide +kernel
theorem dX11_clears_36 : decode cX11_clears 36 = .ok (.iload_n 1, 1) := by decide +kernel
theorem dX11_clears_37 : decode cX11_clears 37 = .ok (.iconst 0, 1) := by decide +kernel
theorem dX11_clears_38 : decode cX11_clears 38 = .ok (.invokevirtual 170, 3) := by decide +kernel
theorem dX11_clears_41 : decode cX11_clears 41 = .ok (.iconst (-1), 1) := by decide +kernel
theorem dX11_clears_42 : decode cX11_clears 42 = .ok (.if_icmp .ne 5, 3) := by decide +kernel
theorem dX11_clears_45 : decode cX11_clears 45 = .ok (.iload_n 2, 1) := by decide +kernel
theorem dX11_clears_46 : decode cX11_clears 46 = .ok (.ireturn, 1) := by decide +kernel
theorem dX11_clears_47 : decode cX11_clears 47 = .ok (.aload_n 0, 1) := by decide +kernel
theorem dX11_clears_48 : decode cX11_clears 48 = .ok (.getfield 51, 3) := by decide +kernel
theorem dX11_clears_51 : decode cX11_clears 51 = .ok (.iconst 1, 1) := by decide +kernel
theorem dX11_clears_52 : decode cX11_clears 52 = .ok (.invokevirtual 231, 3) := by decide +kernel
theorem dX11_clears_55 : decode cX11_clears 55 = .ok (.pop, 1) := by decide +kernel
theorem dX11_clears_56 : decode cX11_clears 56 = .ok (.iinc 2 1, 3) := by decide +kernel
theorem dX11_clears_59 : decode cX11_clears 59 = .ok (.goto (-33), 3) := by decide +kernel
theorem dX11_clears_62 : decode cX11_clears 62 = .ok (.iconst (-1), 1) := by decide +kernel
theorem dX11_clears_63 : decode cX11_clears 63 = .ok (.ireturn, 1) := by decide +kernel
abbrev mX11_clears : MI := (RX11, yX11_clears, cX11_clears, 3, some .int)
theorem cvX11_clears : CV mX11_clears 1 := ⟨⟨mw (i := 996) (by decide +kernel), mw (i := 1) (by decide +kernel), ⟨by decide +kernel, by decide +kernel, by decide +kernel⟩, by decide⟩, mw (i := 994) (by decide +kernel), mw (i := 995) (by decide +kernel)⟩
def FX11_clears (a0 : Nat) (p1 : Int32) : PP Int32 := bd (FX7_hasPlace (rf a0 1) p1) (fun x1 => if ((b2i x1)) = 0 then pu (-1 : Int32) else bd (FX4_copyFrom (rf a0 6) (rf a0 5)) (fun (_ : Unit) => bd (it (fun (s3 : Int32) => (if (40 : Int32) < s3 then pu (Sum.inr (Sum.inl ())) else bd (FX4_weather (rf a0 6) p1 (0 : Int32)) (fun x4 => if x4 = (-1 : Int32) then pu (Sum.inr (Sum.inr (s3))) else bd (FX4_passHour (rf a0 6) (1 : Int32)) (fun x5 => lt (s3 + (1 : Int32)) (fun y6 => pu (Sum.inl y6)))) : PP ((Int32) ⊕ ((Unit) ⊕ (Int32))))) FU (0 : Int32)) (Sum.elim (fun (v7 : Unit) => pu (-1 : Int32)) (fun (v8 : Int32) => pu v8))))
set_option maxHeartbeats 4000000 in
set_option maxRecDepth 100000 in
theorem SX11_clears {l : Launch} {K : KK} {n : Nat} {hn : 270 ≤ n} (a0 : Nat) (p1 : Int32) (h0 : ob a0 10) : CT l K n 3 mX11_clears [.ref (K.2.1 + a0), .int p1] enI (FX11_clears a0 p1) := by
  refine CT.of2 (lv2 := [(0, .ref (K.2.1 + a0)), (1, .int p1)]) (by decide) rfl hn (Nat.le_of_ble_eq_true rfl) rfl (rp_id ?_)
  unfold FX11_clears
  refine rp_aload_n 0 dX11_clears_0 rfl ?_
  refine rp_getR fi_X11_19 h0 rfl dX11_clears_1 ?_
  refine rp_iload_n 1 dX11_clears_4 rfl ?_
  refine rp_callVz [.int p1] (SX7_hasPlace (hn := hn) (rf a0 1) p1 (tX11_1 h0)) cvX7_hasPlace (mw (i := 804) (by decide +kernel)) (by omega) (tX11_1 h0) (by decide) rfl rfl rfl (Nat.le_of_ble_eq_true rfl) dX11_clears_5 (fun x1 => ?_)
  refine rp_if_ne 13 dX11_clears_8 (by decide) ?_ ?_
  · refine rp_aload_n 0 dX11_clears_13 rfl ?_
    refine rp_getR fi_X11_51 h0 rfl dX11_clears_14 ?_
    refine rp_aload_n 0 dX11_clears_17 rfl ?_
    refine rp_getR fi_X11_47 h0 rfl dX11_clears_18 ?_
    refine rp_callVv [.ref (K.2.1 + (rf a0 5))] (SX4_copyFrom (hn := hn) (rf a0 6) (rf a0 5) (tX11_6 h0) (tX11_5 h0)) cvX4_copyFrom (mw (i := 988) (by decide +kernel)) (by omega) (tX11_6 h0) (by decide) rfl rfl rfl (Nat.le_of_ble_eq_true rfl) dX11_clears_21 (fun x2 => ?_)
    refine rp_iconst (0 : Int32) dX11_clears_24 (by decide) ?_
    refine rp_istore_n [(2, .int (0 : Int32)), (0, .ref (K.2.1 + a0)), (1, .int p1)] dX11_clears_25 (by decide) rfl ?_
    refine rp_as ?_
    refine rp_join2 62 (fun v7 => []) (fun _ => []) 45 (fun v8 => [(2, .int v8)]) (fun _ => []) (fun v7 => ?_) (fun v8 => ?_) (fun hX26_0 hX26_1 => ?_)
    · refine rp_iconst (-1 : Int32) dX11_clears_62 (by decide) ?_
      exact rp_pu (rp_iret rfl dX11_clears_63)
    · refine rp_iload_n 0 dX11_clears_45 rfl ?_
      exact rp_pu (rp_iret rfl dX11_clears_46)
    refine rp_sub [1, 2, 0] rfl (rp_it (fun (s3 : Int32) => [(0, .ref (K.2.1 + a0)), (1, .int p1), (2, .int s3)]) (fun N26 ih26 s3 => ?_) FU (0 : Int32))
    refine rp_iload_n 2 dX11_clears_26 rfl ?_
    refine rp_bipush (40 : Int32) dX11_clears_27 (by decide) ?_
    refine rp_icmp_gt 62 dX11_clears_29 (by decide) ?_ ?_
    · exact rp_sub [] rfl (rp_pu (hX26_0 ()))
    · refine rp_aload_n 0 dX11_clears_32 rfl ?_
      refine rp_getR fi_X11_51 h0 rfl dX11_clears_33 ?_
      refine rp_iload_n 1 dX11_clears_36 rfl ?_
      refine rp_iconst (0 : Int32) dX11_clears_37 (by decide) ?_
      refine rp_callVi [.int p1, .int (0 : Int32)] (SX4_weather (hn := hn) (rf a0 6) p1 (0 : Int32) (tX11_6 h0)) cvX4_weather (mw (i := 808) (by decide +kernel)) (by omega) (tX11_6 h0) (by decide) rfl rfl rfl (Nat.le_of_ble_eq_true rfl) dX11_clears_38 (fun x4 => ?_)
      refine rp_iconst (-1 : Int32) dX11_clears_41 (by decide) ?_
      refine rp_icmp_ne 47 dX11_clears_42 (by decide) ?_ ?_
      · refine rp_aload_n 0 dX11_clears_47 rfl ?_
        refine rp_getR fi_X11_51 h0 rfl dX11_clears_48 ?_
        refine rp_iconst (1 : Int32) dX11_clears_51 (by decide) ?_
        refine rp_callVi [.int (1 : Int32)] (SX4_passHour (hn := hn) (rf a0 6) (1 : Int32) (tX11_6 h0)) cvX4_passHour (mw (i := 901) (by decide +kernel)) (by omega) (tX11_6 h0) (by decide) rfl rfl rfl (Nat.le_of_ble_eq_true rfl) dX11_clears_52 (fun x5 => ?_)
        refine rp_pop dX11_clears_55 rfl ?_
        refine rp_iinc (fun y6 => [(2, .int y6), (0, .ref (K.2.1 + a0)), (1, .int p1)]) 2 dX11_clears_56 rfl (by rfl) (by decide) (fun y6 => rfl) (fun y6 => ?_)
        refine rp_goto 26 dX11_clears_59 (by decide) ?_
        exact rp_sub [1, 2, 0] rfl (ih26 y6)
      · exact rp_sub [2] rfl (rp_pu (hX26_1 s3))
  · refine rp_iconst (-1 : Int32) dX11_clears_11 (by decide) ?_
    exact rp_pu (rp_iret rfl dX11_clears_12)

theorem dX11_last_0 : decode cX11_last 0 = .ok (.aload_n 0, 1) := by decide +kernel
theorem dX11_last_1 : decode cX11_last 1 = .ok (.getfield 51, 3) := by decide +kernel
theorem dX11_last_4 : decode cX11_last 4 = .ok (.aload_n 0, 1) := by decide +kernel
theorem dX11_last_5 : decode cX11_last 5 = .ok (.getfield 47, 3) := by decide +kernel
theorem dX11_last_8 : decode cX11_last 8 = .ok (.invokevirtual 260, 3) := by decide +kernel
theorem dX11_last_11 : decode cX11_last 11 = .ok (.aload_n 0, 1) := by decide +kernel
theorem dX11_last_12 : decode cX11_last 12 = .ok (.getfield 51, 3) := by decide +kernel
theorem dX11_last_15 : decode cX11_last 15 = .ok (.invokevirtual 195, 3) := by decide +kernel
theorem dX11_last_18 : decode cX11_last 18 = .ok (.aload_n 0, 1) := by decide +kernel
theorem dX11_last_19 : decode cX11_last 19 = .ok (.getfield 51, 3) := by decide +kernel
theorem dX11_last_22 : decode cX11_last 22 = .ok (.invokevirtual 198, 3) := by decide +kernel
theorem dX11_last_25 : decode cX11_last 25 = .ok (.iconst (-1), 1) := by decide +kernel
theorem dX11_last_26 : decode cX11_last 26 = .ok (.ixor, 1) := by decide +kernel
theorem dX11_last_27 : decode cX11_last 27 = .ok (.iand, 1) := by decide +kernel
theorem dX11_last_28 : decode cX11_last 28 = .ok (.istore_n 1, 1) := by decide +kernel
theorem dX11_last_29 : decode cX11_last 29 = .ok (.iconst 0, 1) := by decide +kernel
theorem dX11_last_30 : decode cX11_last 30 = .ok (.istore_n 2, 1) := by decide +kernel
theorem dX11_last_31 : decode cX11_last 31 = .ok (.iload_n 2, 1) := by decide +kernel
theorem dX11_last_32 : decode cX11_last 32 = .ok (.bipush 40, 2) := by decide +kernel
theorem dX11_last_34 : decode cX11_last 34 = .ok (.if_icmp .ge 24, 3) := by decide +kernel
theorem dX11_last_37 : decode cX11_last 37 = .ok (.aload_n 0, 1) := by decide +kernel
theorem dX11_last_38 : decode cX11_last 38 = .ok (.getfield 51, 3) := by decide +kernel
theorem dX11_last_41 : decode cX11_last 41 = .ok (.iconst 1, 1) := by decide +kernel
theorem dX11_last_42 : decode cX11_last 42 = .ok (.invokevirtual 231, 3) := by decide +kernel
theorem dX11_last_45 : decode cX11_last 45 = .ok (.istore_n 3, 1) := by decide +kernel
theorem dX11_last_46 : decode cX11_last 46 = .ok (.iload_n 3, 1) := by decide +kernel
theorem dX11_last_47 : decode cX11_last 47 = .ok (.ifCond .eq 5, 3) := by decide +kernel
theorem dX11_last_50 : decode cX11_last 50 = .ok (.iload_n 3, 1) := by decide +kernel
theorem dX11_last_51 : decode cX11_last 51 = .ok (.istore_n 1, 1) := by decide +kernel
theorem dX11_last_52 : decode cX11_last 52 = .ok (.iinc 2 1, 3) := by decide +kernel
theorem dX11_last_55 : decode cX11_last 55 = .ok (.goto (-24), 3) := by decide +kernel
theorem dX11_last_58 : decode cX11_last 58 = .ok (.iload_n 1, 1) := by decide +kernel
theorem dX11_last_59 : decode cX11_last 59 = .ok (.ifCond .ne 7, 3) := by decide +kernel
theorem dX11_last_62 : decode cX11_last 62 = .ok (.iconst (-1), 1) := by decide +kernel
theorem dX11_last_63 : decode cX11_last 63 = .ok (.goto 7, 3) := by decide +kernel
theorem dX11_last_66 : decode cX11_last 66 = .ok (.iload_n 1, 1) := by decide +kernel
theorem dX11_last_67 : decode cX11_last 67 = .ok (.invokestatic 262, 3) := by decide +kernel
theorem dX11_last_70 : decode cX11_last 70 = .ok (.ireturn, 1) := by decide +kernel
abbrev mX11_last : MI := (RX11, yX11_last, cX11_last, 4, some .int)
theorem cvX11_last : CV mX11_last 0 := ⟨⟨mw (i := 1000) (by decide +kernel), mw (i := 1) (by decide +kernel), ⟨by decide +kernel, by decide +kernel, by decide +kernel⟩, by decide⟩, mw (i := 998) (by decide +kernel), mw (i := 999) (by decide +kernel)⟩
def FX11_last (a0 : Nat) : PP Int32 := bd (FX4_copyFrom (rf a0 6) (rf a0 5)) (fun (_ : Unit) => bd (FX4_hanging (rf a0 6)) (fun x2 => bd (FX4_wetOnes (rf a0 6)) (fun x3 => lt (x2 &&& (x3 ^^^ (-1 : Int32))) (fun y4 => bd (it (fun (s5 : Int32 × Int32) => (if (40 : Int32) ≤ s5.2 then pu (Sum.inr s5.1) else bd (FX4_passHour (rf a0 6) (1 : Int32)) (fun x6 => bd (if x6 = 0 then pu s5.1 else pu x6 : PP (Int32)) (fun (v7 : Int32) => lt (s5.2 + (1 : Int32)) (fun y8 => pu (Sum.inl (v7, y8))))) : PP ((Int32 × Int32) ⊕ (Int32)))) FU (y4, (0 : Int32))) (fun (v9 : Int32) => bd (if v9 = 0 then pu (-1 : Int32) else bd (FJ6_numberOfTrailingZeros_0f7a4 v9) (fun x10 => pu x10) : PP (Int32)) (fun (v11 : Int32) => pu v11))))))
set_option maxHeartbeats 4000000 in
set_option maxRecDepth 100000 in
theorem SX11_last {l : Launch} {K : KK} {n : Nat} {hn : 270 ≤ n} (a0 : Nat) (h0 : ob a0 10) : CT l K n 3 mX11_last [.ref (K.2.1 + a0)] enI (FX11_last a0) := by
  refine CT.of2 (lv2 := [(0, .ref (K.2.1 + a0))]) (by decide) rfl hn (Nat.le_of_ble_eq_true rfl) rfl (rp_id ?_)
  unfold FX11_last
  refine rp_aload_n 0 dX11_last_0 rfl ?_
  refine rp_getR fi_X11_51 h0 rfl dX11_last_1 ?_
  refine rp_aload_n 0 dX11_last_4 rfl ?_
  refine rp_getR fi_X11_47 h0 rfl dX11_last_5 ?_
  refine rp_callVv [.ref (K.2.1 + (rf a0 5))] (SX4_copyFrom (hn := hn) (rf a0 6) (rf a0 5) (tX11_6 h0) (tX11_5 h0)) cvX4_copyFrom (mw (i := 988) (by decide +kernel)) (by omega) (tX11_6 h0) (by decide) rfl rfl rfl (Nat.le_of_ble_eq_true rfl) dX11_last_8 (fun x1 => ?_)
  refine rp_aload_n 0 dX11_last_11 rfl ?_
  refine rp_getR fi_X11_51 h0 rfl dX11_last_12 ?_
  refine rp_callVi [] (SX4_hanging (hn := hn) (rf a0 6) (tX11_6 h0)) cvX4_hanging (mw (i := 831) (by decide +kernel)) (by omega) (tX11_6 h0) (by decide) rfl rfl rfl (Nat.le_of_ble_eq_true rfl) dX11_last_15 (fun x2 => ?_)
  refine rp_aload_n 0 dX11_last_18 rfl ?_
  refine rp_getR fi_X11_51 h0 rfl dX11_last_19 ?_
  refine rp_callVi [] (SX4_wetOnes (hn := hn) (rf a0 6) (tX11_6 h0)) cvX4_wetOnes (mw (i := 835) (by decide +kernel)) (by omega) (tX11_6 h0) (by decide) rfl rfl rfl (Nat.le_of_ble_eq_true rfl) dX11_last_22 (fun x3 => ?_)
  refine rp_iconst (-1 : Int32) dX11_last_25 (by decide) ?_
  refine rp_ixor dX11_last_26 ?_
  refine rp_iand dX11_last_27 ?_
  refine rp_lti (fun y4 => ?_)
  refine rp_istore_n [(1, .int y4), (0, .ref (K.2.1 + a0))] dX11_last_28 (by decide) rfl ?_
  refine rp_iconst (0 : Int32) dX11_last_29 (by decide) ?_
  refine rp_istore_n [(2, .int (0 : Int32)), (1, .int y4), (0, .ref (K.2.1 + a0))] dX11_last_30 (by decide) rfl ?_
  refine rp_as ?_
  refine rp_join 58 (fun v9 => [(1, .int v9)]) (fun _ => []) (fun v9 => ?_) (fun hX31_0 => ?_)
  · refine rp_iload_n 0 dX11_last_58 rfl ?_
    refine rp_as ?_
    refine rp_join 70 (fun (v11 : Int32) => []) (fun v11 => [.int v11]) (fun v11 => ?_) (fun hJ70 => ?_)
    · exact rp_pu (rp_iret rfl dX11_last_70)
    refine rp_if_ne 66 dX11_last_59 (by decide) ?_ ?_
    · refine rp_iload_n 0 dX11_last_66 rfl ?_
      refine rp_callSi [.int v9] (SJ6_numberOfTrailingZeros_0f7a4 (hn := hn) v9) csJ6_numberOfTrailingZeros_0f7a4 (mw (i := 1001) (by decide +kernel)) (by omega) rfl rfl (Nat.le_of_ble_eq_true rfl) dX11_last_67 (fun x10 => ?_)
      exact rp_sub [] rfl (rp_pu (hJ70 x10))
    · refine rp_iconst (-1 : Int32) dX11_last_62 (by decide) ?_
      refine rp_goto 70 dX11_last_63 (by decide) ?_
      exact rp_sub [] rfl (rp_pu (hJ70 (-1 : Int32)))
  refine rp_sub [2, 1, 0] rfl (rp_it (fun (s5 : Int32 × Int32) => [(0, .ref (K.2.1 + a0)), (1, .int s5.1), (2, .int s5.2)]) (fun N31 ih31 s5 => ?_) FU (y4, (0 : Int32)))
  refine rp_iload_n 2 dX11_last_31 rfl ?_
  refine rp_bipush (40 : Int32) dX11_last_32 (by decide) ?_
  refine rp_icmp_ge 58 dX11_last_34 (by decide) ?_ ?_
  · exact rp_sub [1] rfl (rp_pu (hX31_0 s5.1))
  · refine rp_aload_n 0 dX11_last_37 rfl ?_
    refine rp_getR fi_X11_51 h0 rfl dX11_last_38 ?_
    refine rp_iconst (1 : Int32) dX11_last_41 (by decide) ?_
    refine rp_callVi [.int (1 : Int32)] (SX4_passHour (hn := hn) (rf a0 6) (1 : Int32) (tX11_6 h0)) cvX4_passHour (mw (i := 901) (by decide +kernel)) (by omega) (tX11_6 h0) (by decide) rfl rfl rfl (Nat.le_of_ble_eq_true rfl) dX11_last_42 (fun x6 => ?_)
    refine rp_istore_n [(3, .int x6), (0, .ref (K.2.1 + a0)), (1, .int s5.1), (2, .int s5.2)] dX11_last_45 (by decide) rfl ?_
    refine rp_iload_n 0 dX11_last_46 rfl ?_
    refine rp_as ?_
    refine rp_join 52 (fun (v7 : Int32) => [(0, .ref (K.2.1 + a0)), (1, .int v7), (2, .int s5.2)]) (fun v7 => []) (fun v7 => ?_) (fun hJ52 => ?_)
    · refine rp_iinc (fun y8 => [(2, .int y8), (0, .ref (K.2.1 + a0)), (1, .int v7)]) 2 dX11_last_52 rfl (by rfl) (by decide) (fun y8 => rfl) (fun y8 => ?_)
      refine rp_goto 31 dX11_last_55 (by decide) ?_
      exact rp_sub [1, 2, 0] rfl (ih31 (v7, y8))
    refine rp_if_eq 52 dX11_last_47 (by decide) ?_ ?_
    · exact rp_sub [1, 2, 3] rfl (rp_pu (hJ52 s5.1))
    · refine rp_iload_n 0 dX11_last_50 rfl ?_
      refine rp_istore_n [(1, .int x6), (3, .int x6), (0, .ref (K.2.1 + a0)), (2, .int s5.2)] dX11_last_51 (by decide) rfl ?_
      exact rp_sub [2, 0, 3] rfl (rp_pu (hJ52 x6))

theorem dX11_waysToDry_0 : decode cX11_waysToDry 0 = .ok (.iload_n 2, 1) := by decide +kernel
theorem dX11_waysToDry_1 : decode cX11_waysToDry 1 = .ok (.iload_n 3, 1) := by decide +kernel
theorem dX11_waysToDry_2 : decode cX11_waysToDry 2 = .ok (.if_icmp .ge 14, 3) := by decide +kernel
theorem dX11_waysToDry_5 : decode cX11_waysToDry 5 = .ok (.iload_n 2, 1) := by decide +kernel
theorem dX11_waysToDry_6 : decode cX11_waysToDry 6 = .ok (.iconst 1, 1) := by decide +kernel
theorem dX11_waysToDry_7 : decode cX11_waysToDry 7 = .ok (.iadd, 1) := by decide +kernel
theorem dX11_waysToDry_8 : decode cX11_waysToDry 8 = .ok (.aload_n 0, 1) := by decide +kernel
theorem dX11_waysToDry_9 : decode cX11_waysToDry 9 = .ok (.getfield 84, 3) := by decide +kernel
theorem dX11_waysToDry_12 : decode cX11_waysToDry 12 = .ok (.arraylength, 1) := by decide +kernel
theorem dX11_waysToDry_13 : decode cX11_waysToDry 13 = .ok (.if_icmp .lt 23, 3) := by decide +kernel
theorem dX11_waysToDry_16 : decode cX11_waysToDry 16 = .ok (.aload_n 0, 1) := by decide +kernel
theorem dX11_waysToDry_17 : decode cX11_waysToDry 17 = .ok (.getfield 84, 3) := by decide +kernel
theorem dX11_waysToDry_20 : decode cX11_waysToDry 20 = .ok (.iload_n 2, 1) := by decide +kernel
theorem dX11_waysToDry_21 : decode cX11_waysToDry 21 = .ok (.aaload, 1) := by decide +kernel
theorem dX11_waysToDry_22 : decode cX11_waysToDry 22 = .ok (.getfield 155, 3) := by decide +kernel
theorem dX11_waysToDry_25 : decode cX11_waysToDry 25 = .ok (.iload_n 1, 1) := by decide +kernel
theorem dX11_waysToDry_26 : decode cX11_waysToDry 26 = .ok (.iaload, 1) := by decide +kernel
theorem dX11_waysToDry_27 : decode cX11_waysToDry 27 = .ok (.ifCond .ne 7, 3) := by decide +kernel
theorem dX11_waysToDry_30 : decode cX11_waysToDry 30 = .ok (.iconst 1, 1) := by decide +kernel
theorem dX11_waysToDry_31 : decode cX11_waysToDry 31 = .ok (.goto 4, 3) := by decide +kernel
theorem dX11_waysToDry_34 : decode cX11_waysToDry 34 = .ok (.iconst 0, 1) := by decide +kernel
theorem dX11_waysToDry_35 : decode cX11_waysToDry 35 = .ok (.ireturn, 1) := by decide +kernel
theorem dX11_waysToDry_36 : decode cX11_waysToDry 36 = .ok (.iconst 0, 1) := by decide +kernel
theorem dX11_waysToDry_37 : decode cX11_waysToDry 37 = .ok (.istore 5, 2) := by decide +kernel
theorem dX11_waysToDry_39 : decode cX11_waysToDry 39 = .ok (.iload 4, 2) := by decide +kernel
theorem dX11_waysToDry_41 : decode cX11_waysToDry 41 = .ok (.ifCond .le 52, 3) := by decide +kernel
theorem dX11_waysToDry_44 : decode cX11_waysToDry 44 = .ok (.aload_n 0, 1) := by decide +kernel
theorem dX11_waysToDry_45 : decode cX11_waysToDry 45 = .ok (.getfield 84, 3) := by decide +kernel
theorem dX11_waysToDry_48 : decode cX11_waysToDry 48 = .ok (.iload_n 2, 1) := by decide +kernel
theorem dX11_waysToDry_49 : decode cX11_waysToDry 49 = .ok (.iconst 1, 1) := by decide +kernel
theorem dX11_waysToDry_50 : decode cX11_waysToDry 50 = .ok (.iadd, 1) := by decide +kernel
theorem dX11_waysToDry_51 : decode cX11_waysToDry 51 = .ok (.aaload, 1) := by decide +kernel
theorem dX11_waysToDry_52 : decode cX11_waysToDry 52 = .ok (.aload_n 0, 1) := by decide +kernel
theorem dX11_waysToDry_53 : decode cX11_waysToDry 53 = .ok (.getfield 84, 3) := by decide +kernel
theorem dX11_waysToDry_56 : decode cX11_waysToDry 56 = .ok (.iload_n 2, 1) := by decide +kernel
theorem dX11_waysToDry_57 : decode cX11_waysToDry 57 = .ok (.aaload, 1) := by decide +kernel
theorem dX11_waysToDry_58 : decode cX11_waysToDry 58 = .ok (.invokevirtual 260, 3) := by decide +kernel
theorem dX11_waysToDry_61 : decode cX11_waysToDry 61 = .ok (.aload_n 0, 1) := by decide +kernel
theorem dX11_waysToDry_62 : decode cX11_waysToDry 62 = .ok (.getfield 84, 3) := by decide +kernel
theorem dX11_waysToDry_65 : decode cX11_waysToDry 65 = .ok (.iload_n 2, 1) := by decide +kernel
theorem dX11_waysToDry_66 : decode cX11_waysToDry 66 = .ok (.iconst 1, 1) := by decide +kernel
theorem dX11_waysToDry_67 : decode cX11_waysToDry 67 = .ok (.iadd, 1) := by decide +kernel
theorem dX11_waysToDry_68 : decode cX11_waysToDry 68 = .ok (.aaload, 1) := by decide +kernel
theorem dX11_waysToDry_69 : decode cX11_waysToDry 69 = .ok (.iconst 1, 1) := by decide +kernel
theorem dX11_waysToDry_70 : decode cX11_waysToDry 70 = .ok (.invokevirtual 231, 3) := by decide +kernel
theorem dX11_waysToDry_73 : decode cX11_waysToDry 73 = .ok (.pop, 1) := by decide +kernel
theorem dX11_waysToDry_74 : decode cX11_waysToDry 74 = .ok (.iload 5, 2) := by decide +kernel
theorem dX11_waysToDry_76 : decode cX11_waysToDry 76 = .ok (.iload 4, 2) := by decide +kernel
theorem dX11_waysToDry_78 : decode cX11_waysToDry 78 = .ok (.aload_n 0, 1) := by decide +kernel
theorem dX11_waysToDry_79 : decode cX11_waysToDry 79 = .ok (.iload_n 1, 1) := by decide +kernel
theorem dX11_waysToDry_80 : decode cX11_waysToDry 80 = .ok (.iload_n 2, 1) := by decide +kernel
theorem dX11_waysToDry_81 : decode cX11_waysToDry 81 = .ok (.iconst 1, 1) := by decide +kernel
theorem dX11_waysToDry_82 : decode cX11_waysToDry 82 = .ok (.iadd, 1) := by decide +kernel
theorem dX11_waysToDry_83 : decode cX11_waysToDry 83 = .ok (.iload_n 3, 1) := by decide +kernel
theorem dX11_waysToDry_84 : decode cX11_waysToDry 84 = .ok (.iload 4, 2) := by decide +kernel
theorem dX11_waysToDry_86 : decode cX11_waysToDry 86 = .ok (.invokevirtual 265, 3) := by decide +kernel
theorem dX11_waysToDry_89 : decode cX11_waysToDry 89 = .ok (.imul, 1) := by decide +kernel
theorem dX11_waysToDry_90 : decode cX11_waysToDry 90 = .ok (.iadd, 1) := by decide +kernel
theorem dX11_waysToDry_91 : decode cX11_waysToDry 91 = .ok (.istore 5, 2) := by decide +kernel
theorem dX11_waysToDry_93 : decode cX11_waysToDry 93 = .ok (.iload 4, 2) := by decide +kernel
theorem dX11_waysToDry_95 : decode cX11_waysToDry 95 = .ok (.bipush 10, 2) := by decide +kernel
theorem dX11_waysToDry_97 : decode cX11_waysToDry 97 = .ok (.if_icmp .ge 55, 3) := by decide +kernel
theorem dX11_waysToDry_100 : decode cX11_waysToDry 100 = .ok (.aload_n 0, 1) := by decide +kernel
theorem dX11_waysToDry_101 : decode cX11_waysToDry 101 = .ok (.getfield 84, 3) := by decide +kernel
theorem dX11_waysToDry_104 : decode cX11_waysToDry 104 = .ok (.iload_n 2, 1) := by decide +kernel
theorem dX11_waysToDry_105 : decode cX11_waysToDry 105 = .ok (.iconst 1, 1) := by decide +kernel
theorem dX11_waysToDry_106 : decode cX11_waysToDry 106 = .ok (.iadd, 1) := by decide +kernel
theorem dX11_waysToDry_107 : decode cX11_waysToDry 107 = .ok (.aaload, 1) := by decide +kernel
theorem dX11_waysToDry_108 : decode cX11_waysToDry 108 = .ok (.aload_n 0, 1) := by decide +kernel
theorem dX11_waysToDry_109 : decode cX11_waysToDry 109 = .ok (.getfield 84, 3) := by decide +kernel
theorem dX11_waysToDry_112 : decode cX11_waysToDry 112 = .ok (.iload_n 2, 1) := by decide +kernel
theorem dX11_waysToDry_113 : decode cX11_waysToDry 113 = .ok (.aaload, 1) := by decide +kernel
theorem dX11_waysToDry_114 : decode cX11_waysToDry 114 = .ok (.invokevirtual 260, 3) := by decide +kernel
theorem dX11_waysToDry_117 : decode cX11_waysToDry 117 = .ok (.aload_n 0, 1) := by decide +kernel
theorem dX11_waysToDry_118 : decode cX11_waysToDry 118 = .ok (.getfield 84, 3) := by decide +kernel
theorem dX11_waysToDry_121 : decode cX11_waysToDry 121 = .ok (.iload_n 2, 1) := by decide +kernel
theorem dX11_waysToDry_122 : decode cX11_waysToDry 122 = .ok (.iconst 1, 1) := by decide +kernel
theorem dX11_waysToDry_123 : decode cX11_waysToDry 123 = .ok (.iadd, 1) := by decide +kernel
theorem dX11_waysToDry_124 : decode cX11_waysToDry 124 = .ok (.aaload, 1) := by decide +kernel
theorem dX11_waysToDry_125 : decode cX11_waysToDry 125 = .ok (.iconst 0, 1) := by decide +kernel
theorem dX11_waysToDry_126 : decode cX11_waysToDry 126 = .ok (.invokevirtual 231, 3) := by decide +kernel
theorem dX11_waysToDry_129 : decode cX11_waysToDry 129 = .ok (.pop, 1) := by decide +kernel
theorem dX11_waysToDry_130 : decode cX11_waysToDry 130 = .ok (.iload 5, 2) := by decide +kernel
theorem dX11_waysToDry_132 : decode cX11_waysToDry 132 = .ok (.bipush 10, 2) := by decide +kernel
theorem dX11_waysToDry_134 : decode cX11_waysToDry 134 = .ok (.iload 4, 2) := by decide +kernel
theorem dX11_waysToDry_136 : decode cX11_waysToDry 136 = .ok (.isub, 1) := by decide +kernel
theorem dX11_waysToDry_137 : decode cX11_waysToDry 137 = .ok (.aload_n 0, 1) := by decide +kernel
theorem dX11_waysToDry_138 : decode cX11_waysToDry 138 = .ok (.iload_n 1, 1) := by decide +kernel
theorem dX11_waysToDry_139 : decode cX11_waysToDry 139 = .ok (.iload_n 2, 1) := by decide +kernel
theorem dX11_waysToDry_140 : decode cX11_waysToDry 140 = .ok (.iconst 1, 1) := by decide +kernel
theorem dX11_waysToDry_141 : decode cX11_waysToDry 141 = .ok (.iadd, 1) := by decide +kernel
theorem dX11_waysToDry_142 : decode cX11_waysToDry 142 = .ok (.iload_n 3, 1) := by decide +kernel
theorem dX11_waysToDry_143 : decode cX11_waysToDry 143 = .ok (.iload 4, 2) := by decide +kernel
theorem dX11_waysToDry_145 : decode cX11_waysToDry 145 = .ok (.invokevirtual 265, 3) := by decide +kernel
theorem dX11_waysToDry_148 : decode cX11_waysToDry 148 = .ok (.imul, 1) := by decide +kernel
theorem dX11_waysToDry_149 : decode cX11_waysToDry 149 = .ok (.iadd, 1) := by decide +kernel
theorem dX11_waysToDry_150 : decode cX11_waysToDry 150 = .ok (.istore 5, 2) := by decide +kernel
theorem dX11_waysToDry_152 : decode cX11_waysToDry 152 = .ok (.iload 5, 2) := by decide +kernel
theorem dX11_waysToDry_154 : decode cX11_waysToDry 154 = .ok (.ireturn, 1) := by decide +kernel
abbrev mX11_waysToDry : MI := (RX11, yX11_waysToDry, cX11_waysToDry, 6, some .int)
theorem cvX11_waysToDry : CV mX11_waysToDry 4 := ⟨⟨mw (i := 1009) (by decide +kernel), mw (i := 1) (by decide +kernel), ⟨by decide +kernel, by decide +kernel, by decide +kernel⟩, by decide⟩, mw (i := 1008) (by decide +kernel), mp2 (i := 20) 12 (by decide +kernel)⟩
def GX11_waysToDry (self : Nat → Int32 → Int32 → Int32 → Int32 → PP Int32) (a0 : Nat) (p1 : Int32) (p2 : Int32) (p3 : Int32) (p4 : Int32) : PP Int32 := jn (fun (v18 : Unit) => bd (gd (ib p2 7 = true)) (fun (_ : Unit) => bd (aI (rf (rf (rf a0 11) p2.toNatClampNeg) 1) 6 p1) (fun x20 => bd (if x20 = 0 then pu (1 : Int32) else pu (0 : Int32) : PP (Int32)) (fun (v21 : Int32) => pu v21)))) (fun j1 => if p3 ≤ p2 then j1 () else if (p2 + (1 : Int32)) < (7 : Int32) then bd (if p4 ≤ 0 then pu (0 : Int32) else bd (gd (ib (p2 + (1 : Int32)) 7 = true)) (fun (_ : Unit) => bd (gd (ib p2 7 = true)) (fun (_ : Unit) => bd (FX4_copyFrom (rf (rf a0 11) (p2 + (1 : Int32)).toNatClampNeg) (rf (rf a0 11) p2.toNatClampNeg)) (fun (_ : Unit) => bd (gd (ib (p2 + (1 : Int32)) 7 = true)) (fun (_ : Unit) => bd (FX4_passHour (rf (rf a0 11) (p2 + (1 : Int32)).toNatClampNeg) (1 : Int32)) (fun x6 => bd (self a0 p1 (p2 + (1 : Int32)) p3 p4) (fun x7 => lt ((0 : Int32) + (p4 * x7)) (fun y8 => pu y8))))))) : PP (Int32)) (fun (v9 : Int32) => bd (if (10 : Int32) ≤ p4 then pu v9 else bd (gd (ib (p2 + (1 : Int32)) 7 = true)) (fun (_ : Unit) => bd (gd (ib p2 7 = true)) (fun (_ : Unit) => bd (FX4_copyFrom (rf (rf a0 11) (p2 + (1 : Int32)).toNatClampNeg) (rf (rf a0 11) p2.toNatClampNeg)) (fun (_ : Unit) => bd (gd (ib (p2 + (1 : Int32)) 7 = true)) (fun (_ : Unit) => bd (FX4_passHour (rf (rf a0 11) (p2 + (1 : Int32)).toNatClampNeg) (0 : Int32)) (fun x14 => bd (self a0 p1 (p2 + (1 : Int32)) p3 p4) (fun x15 => lt (v9 + (((10 : Int32) - p4) * x15)) (fun y16 => pu y16))))))) : PP (Int32)) (fun (v17 : Int32) => pu v17)) else j1 ())
set_option maxHeartbeats 4000000 in
set_option maxRecDepth 100000 in
theorem SGX11_waysToDry {l : Launch} {K : KK} {n : Nat} {dp : Nat} {self : Nat → Int32 → Int32 → Int32 → Int32 → PP Int32} {hn : 270 ≤ n} (hs : ∀ (a0 : Nat) (p1 : Int32) (p2 : Int32) (p3 : Int32) (p4 : Int32), ob a0 10 → CT l K n dp mX11_waysToDry [.ref (K.2.1 + a0), .int p1, .int p2, .int p3, .int p4] enI (self a0 p1 p2 p3 p4)) (a0 : Nat) (p1 : Int32) (p2 : Int32) (p3 : Int32) (p4 : Int32) (h0 : ob a0 10) : CT l K n (dp + 3) mX11_waysToDry [.ref (K.2.1 + a0), .int p1, .int p2, .int p3, .int p4] enI (GX11_waysToDry self a0 p1 p2 p3 p4) := by
  refine CT.of2 (lv2 := [(0, .ref (K.2.1 + a0)), (1, .int p1), (2, .int p2), (3, .int p3), (4, .int p4)]) (by decide) rfl hn (Nat.le_of_ble_eq_true rfl) rfl (rp_id ?_)
  unfold GX11_waysToDry
  refine rp_iload_n 2 dX11_waysToDry_0 rfl ?_
  refine rp_iload_n 3 dX11_waysToDry_1 rfl ?_
  refine rp_jn2 16 (fun (v18 : Unit) => [(0, .ref (K.2.1 + a0)), (1, .int p1), (2, .int p2)]) (fun v18 => []) (fun v18 => ?_) (fun hK16 => ?_)
  · refine rp_aload_n 0 dX11_waysToDry_16 rfl ?_
    refine rp_getR fi_X11_84 h0 rfl dX11_waysToDry_17 ?_
    refine rp_iload_n 2 dX11_waysToDry_20 rfl ?_
    refine rp_aald (tX11_11 h0) (Or.inl rfl) dX11_waysToDry_21 (fun hb19 => ?_)
    refine rp_getR fi_X11_155 (arr4 (tX11_11 h0) hb19) rfl dX11_waysToDry_22 ?_
    refine rp_iload_n 1 dX11_waysToDry_25 rfl ?_
    refine rp_iald (tX4_1 (arr4 (tX11_11 h0) hb19)) dX11_waysToDry_26 (fun x20 => ?_)
    refine rp_as ?_
    refine rp_join 35 (fun (v21 : Int32) => []) (fun v21 => [.int v21]) (fun v21 => ?_) (fun hJ35 => ?_)
    · exact rp_pu (rp_iret rfl dX11_waysToDry_35)
    refine rp_if_ne 34 dX11_waysToDry_27 (by decide) ?_ ?_
    · refine rp_iconst (0 : Int32) dX11_waysToDry_34 (by decide) ?_
      exact rp_sub [] rfl (rp_pu (hJ35 (0 : Int32)))
    · refine rp_iconst (1 : Int32) dX11_waysToDry_30 (by decide) ?_
      refine rp_goto 35 dX11_waysToDry_31 (by decide) ?_
      exact rp_sub [] rfl (rp_pu (hJ35 (1 : Int32)))
  refine rp_icmp_ge 16 dX11_waysToDry_2 (by decide) ?_ ?_
  · exact rp_sub [0, 1, 2] rfl (hK16 ())
  · refine rp_iload_n 2 dX11_waysToDry_5 rfl ?_
    refine rp_iconst (1 : Int32) dX11_waysToDry_6 (by decide) ?_
    refine rp_iadd dX11_waysToDry_7 ?_
    refine rp_aload_n 0 dX11_waysToDry_8 rfl ?_
    refine rp_getR fi_X11_84 h0 rfl dX11_waysToDry_9 ?_
    refine rp_alen (v := (7 : Int32)) (tX11_11 h0) rfl rfl dX11_waysToDry_12 ?_
    refine rp_icmp_lt 36 dX11_waysToDry_13 (by decide) ?_ ?_
    · refine rp_iconst (0 : Int32) dX11_waysToDry_36 (by decide) ?_
      refine rp_istore [(5, .int (0 : Int32)), (0, .ref (K.2.1 + a0)), (1, .int p1), (2, .int p2), (3, .int p3), (4, .int p4)] dX11_waysToDry_37 (by decide) rfl ?_
      refine rp_iload 5 dX11_waysToDry_39 rfl ?_
      refine rp_as ?_
      refine rp_join 93 (fun (v9 : Int32) => [(0, .ref (K.2.1 + a0)), (1, .int p1), (2, .int p2), (3, .int p3), (4, .int p4), (5, .int v9)]) (fun v9 => []) (fun v9 => ?_) (fun hJ93 => ?_)
      · refine rp_iload 4 dX11_waysToDry_93 rfl ?_
        refine rp_bipush (10 : Int32) dX11_waysToDry_95 (by decide) ?_
        refine rp_as ?_
        refine rp_join 152 (fun (v17 : Int32) => [(5, .int v17)]) (fun v17 => []) (fun v17 => ?_) (fun hJ152 => ?_)
        · refine rp_iload 0 dX11_waysToDry_152 rfl ?_
          exact rp_pu (rp_iret rfl dX11_waysToDry_154)
        refine rp_icmp_ge 152 dX11_waysToDry_97 (by decide) ?_ ?_
        · exact rp_sub [5] rfl (rp_pu (hJ152 v9))
        · refine rp_aload_n 0 dX11_waysToDry_100 rfl ?_
          refine rp_getR fi_X11_84 h0 rfl dX11_waysToDry_101 ?_
          refine rp_iload_n 2 dX11_waysToDry_104 rfl ?_
          refine rp_iconst (1 : Int32) dX11_waysToDry_105 (by decide) ?_
          refine rp_iadd dX11_waysToDry_106 ?_
          refine rp_aald (tX11_11 h0) (Or.inl rfl) dX11_waysToDry_107 (fun hb10 => ?_)
          refine rp_aload_n 0 dX11_waysToDry_108 rfl ?_
          refine rp_getR fi_X11_84 h0 rfl dX11_waysToDry_109 ?_
          refine rp_iload_n 2 dX11_waysToDry_112 rfl ?_
          refine rp_aald (tX11_11 h0) (Or.inl rfl) dX11_waysToDry_113 (fun hb11 => ?_)
          refine rp_callVv [.ref (K.2.1 + (rf (rf a0 11) p2.toNatClampNeg))] (SX4_copyFrom (hn := hn) (rf (rf a0 11) (p2 + (1 : Int32)).toNatClampNeg) (rf (rf a0 11) p2.toNatClampNeg) (arr4 (tX11_11 h0) hb10) (arr4 (tX11_11 h0) hb11)) cvX4_copyFrom (mw (i := 988) (by decide +kernel)) (by omega) (arr4 (tX11_11 h0) hb10) (by decide) rfl rfl rfl (Nat.le_of_ble_eq_true rfl) dX11_waysToDry_114 (fun x12 => ?_)
          refine rp_aload_n 0 dX11_waysToDry_117 rfl ?_
          refine rp_getR fi_X11_84 h0 rfl dX11_waysToDry_118 ?_
          refine rp_iload_n 2 dX11_waysToDry_121 rfl ?_
          refine rp_iconst (1 : Int32) dX11_waysToDry_122 (by decide) ?_
          refine rp_iadd dX11_waysToDry_123 ?_
          refine rp_aald (tX11_11 h0) (Or.inl rfl) dX11_waysToDry_124 (fun hb13 => ?_)
          refine rp_iconst (0 : Int32) dX11_waysToDry_125 (by decide) ?_
          refine rp_callVi [.int (0 : Int32)] (SX4_passHour (hn := hn) (rf (rf a0 11) (p2 + (1 : Int32)).toNatClampNeg) (0 : Int32) (arr4 (tX11_11 h0) hb13)) cvX4_passHour (mw (i := 901) (by decide +kernel)) (by omega) (arr4 (tX11_11 h0) hb13) (by decide) rfl rfl rfl (Nat.le_of_ble_eq_true rfl) dX11_waysToDry_126 (fun x14 => ?_)
          refine rp_pop dX11_waysToDry_129 rfl ?_
          refine rp_iload 5 dX11_waysToDry_130 rfl ?_
          refine rp_bipush (10 : Int32) dX11_waysToDry_132 (by decide) ?_
          refine rp_iload 4 dX11_waysToDry_134 rfl ?_
          refine rp_isub dX11_waysToDry_136 ?_
          refine rp_aload_n 0 dX11_waysToDry_137 rfl ?_
          refine rp_iload_n 1 dX11_waysToDry_138 rfl ?_
          refine rp_iload_n 2 dX11_waysToDry_139 rfl ?_
          refine rp_iconst (1 : Int32) dX11_waysToDry_140 (by decide) ?_
          refine rp_iadd dX11_waysToDry_141 ?_
          refine rp_iload_n 3 dX11_waysToDry_142 rfl ?_
          refine rp_iload 4 dX11_waysToDry_143 rfl ?_
          refine rp_callVi [.int p1, .int (p2 + (1 : Int32)), .int p3, .int p4] (hs a0 p1 (p2 + (1 : Int32)) p3 p4 h0) cvX11_waysToDry (mw (i := 1006) (by decide +kernel)) (by omega) h0 (by decide) rfl rfl rfl (Nat.le_of_ble_eq_true rfl) dX11_waysToDry_145 (fun x15 => ?_)
          refine rp_imul dX11_waysToDry_148 ?_
          refine rp_iadd dX11_waysToDry_149 ?_
          refine rp_lti (fun y16 => ?_)
          refine rp_istore [(5, .int y16), (0, .ref (K.2.1 + a0)), (1, .int p1), (2, .int p2), (3, .int p3), (4, .int p4)] dX11_waysToDry_150 (by decide) rfl ?_
          exact rp_sub [0] rfl (rp_pu (hJ152 y16))
      refine rp_if_le 93 dX11_waysToDry_41 (by decide) ?_ ?_
      · exact rp_sub [1, 2, 3, 4, 5, 0] rfl (rp_pu (hJ93 (0 : Int32)))
      · refine rp_aload_n 1 dX11_waysToDry_44 rfl ?_
        refine rp_getR fi_X11_84 h0 rfl dX11_waysToDry_45 ?_
        refine rp_iload_n 3 dX11_waysToDry_48 rfl ?_
        refine rp_iconst (1 : Int32) dX11_waysToDry_49 (by decide) ?_
        refine rp_iadd dX11_waysToDry_50 ?_
        refine rp_aald (tX11_11 h0) (Or.inl rfl) dX11_waysToDry_51 (fun hb2 => ?_)
        refine rp_aload_n 1 dX11_waysToDry_52 rfl ?_
        refine rp_getR fi_X11_84 h0 rfl dX11_waysToDry_53 ?_
        refine rp_iload_n 3 dX11_waysToDry_56 rfl ?_
        refine rp_aald (tX11_11 h0) (Or.inl rfl) dX11_waysToDry_57 (fun hb3 => ?_)
        refine rp_callVv [.ref (K.2.1 + (rf (rf a0 11) p2.toNatClampNeg))] (SX4_copyFrom (hn := hn) (rf (rf a0 11) (p2 + (1 : Int32)).toNatClampNeg) (rf (rf a0 11) p2.toNatClampNeg) (arr4 (tX11_11 h0) hb2) (arr4 (tX11_11 h0) hb3)) cvX4_copyFrom (mw (i := 988) (by decide +kernel)) (by omega) (arr4 (tX11_11 h0) hb2) (by decide) rfl rfl rfl (Nat.le_of_ble_eq_true rfl) dX11_waysToDry_58 (fun x4 => ?_)
        refine rp_aload_n 1 dX11_waysToDry_61 rfl ?_
        refine rp_getR fi_X11_84 h0 rfl dX11_waysToDry_62 ?_
        refine rp_iload_n 3 dX11_waysToDry_65 rfl ?_
        refine rp_iconst (1 : Int32) dX11_waysToDry_66 (by decide) ?_
        refine rp_iadd dX11_waysToDry_67 ?_
        refine rp_aald (tX11_11 h0) (Or.inl rfl) dX11_waysToDry_68 (fun hb5 => ?_)
        refine rp_iconst (1 : Int32) dX11_waysToDry_69 (by decide) ?_
        refine rp_callVi [.int (1 : Int32)] (SX4_passHour (hn := hn) (rf (rf a0 11) (p2 + (1 : Int32)).toNatClampNeg) (1 : Int32) (arr4 (tX11_11 h0) hb5)) cvX4_passHour (mw (i := 901) (by decide +kernel)) (by omega) (arr4 (tX11_11 h0) hb5) (by decide) rfl rfl rfl (Nat.le_of_ble_eq_true rfl) dX11_waysToDry_70 (fun x6 => ?_)
        refine rp_pop dX11_waysToDry_73 rfl ?_
        refine rp_iload 0 dX11_waysToDry_74 rfl ?_
        refine rp_iload 5 dX11_waysToDry_76 rfl ?_
        refine rp_aload_n 1 dX11_waysToDry_78 rfl ?_
        refine rp_iload_n 2 dX11_waysToDry_79 rfl ?_
        refine rp_iload_n 3 dX11_waysToDry_80 rfl ?_
        refine rp_iconst (1 : Int32) dX11_waysToDry_81 (by decide) ?_
        refine rp_iadd dX11_waysToDry_82 ?_
        refine rp_iload_n 4 dX11_waysToDry_83 rfl ?_
        refine rp_iload 5 dX11_waysToDry_84 rfl ?_
        refine rp_callVi [.int p1, .int (p2 + (1 : Int32)), .int p3, .int p4] (hs a0 p1 (p2 + (1 : Int32)) p3 p4 h0) cvX11_waysToDry (mw (i := 1006) (by decide +kernel)) (by omega) h0 (by decide) rfl rfl rfl (Nat.le_of_ble_eq_true rfl) dX11_waysToDry_86 (fun x7 => ?_)
        refine rp_imul dX11_waysToDry_89 ?_
        refine rp_iadd dX11_waysToDry_90 ?_
        refine rp_lti (fun y8 => ?_)
        refine rp_istore [(5, .int y8), (0, .ref (K.2.1 + a0)), (1, .int p1), (2, .int p2), (3, .int p3), (4, .int p4)] dX11_waysToDry_91 (by decide) rfl ?_
        exact rp_sub [1, 2, 3, 4, 5, 0] rfl (rp_pu (hJ93 y8))
    · exact rp_sub [0, 1, 2] rfl (hK16 ())
def FX11_waysToDry : Nat → Nat → Int32 → Int32 → Int32 → Int32 → PP Int32
  | 0, _, _, _, _, _ => fl
  | k + 1, a0, p1, p2, p3, p4 => GX11_waysToDry (FX11_waysToDry k) a0 p1 p2 p3 p4
theorem SX11_waysToDry {l : Launch} {K : KK} {n : Nat} {hn : 270 ≤ n} : ∀ (k : Nat) (a0 : Nat) (p1 : Int32) (p2 : Int32) (p3 : Int32) (p4 : Int32) (h0 : ob a0 10), CT l K n (3 * k) mX11_waysToDry [.ref (K.2.1 + a0), .int p1, .int p2, .int p3, .int p4] enI (FX11_waysToDry k a0 p1 p2 p3 p4)
  | 0, _, _, _, _, _, _ => fun σ r σ' q => by cases q
  | k + 1, a0, p1, p2, p3, p4, h0 => SGX11_waysToDry (hn := hn) (dp := 3 * k) (fun z0 z1 z2 z3 z4 z5 => SX11_waysToDry (hn := hn) k z0 z1 z2 z3 z4 z5) a0 p1 p2 p3 p4 h0

theorem dX11_chance_0 : decode cX11_chance 0 = .ok (.aload_n 0, 1) := by decide +kernel
theorem dX11_chance_1 : decode cX11_chance 1 = .ok (.getfield 47, 3) := by decide +kernel
theorem dX11_chance_4 : decode cX11_chance 4 = .ok (.iload_n 1, 1) := by decide +kernel
theorem dX11_chance_5 : decode cX11_chance 5 = .ok (.invokevirtual 218, 3) := by decide +kernel
theorem dX11_chance_8 : decode cX11_chance 8 = .ok (.ifCond .eq 24, 3) := by decide +kernel
theorem dX11_chance_11 : decode cX11_chance 11 = .ok (.iload_n 2, 1) := by decide +kernel
theorem dX11_chance_12 : decode cX11_chance 12 = .ok (.iconst 1, 1) := by decide +kernel
theorem dX11_chance_13 : decode cX11_chance 13 = .ok (.if_icmp .lt 19, 3) := by decide +kernel
theorem dX11_chance_16 : decode cX11_chance 16 = .ok (.iload_n 2, 1) := by decide +kernel
theorem dX11_chance_17 : decode cX11_chance 17 = .ok (.bipush 6, 2) := by decide +kernel
theorem dX11_chance_19 : decode cX11_chance 19 = .ok (.if_icmp .gt 13, 3) := by decide +kernel
theorem dX11_chance_22 : decode cX11_chance 22 = .ok (.iload_n 3, 1) := by decide +kernel
theorem dX11_chance_23 : decode cX11_chance 23 = .ok (.ifCond .lt 9, 3) := by decide +kernel
theorem dX11_chance_26 : decode cX11_chance 26 = .ok (.iload_n 3, 1) := by decide +kernel
theorem dX11_chance_27 : decode cX11_chance 27 = .ok (.bipush 10, 2) := by decide +kernel
theorem dX11_chance_29 : decode cX11_chance 29 = .ok (.if_icmp .le 5, 3) := by decide +kernel
theorem dX11_chance_32 : decode cX11_chance 32 = .ok (.iconst (-1), 1) := by decide +kernel
theorem dX11_chance_33 : decode cX11_chance 33 = .ok (.ireturn, 1) := by decide +kernel
theorem dX11_chance_34 : decode cX11_chance 34 = .ok (.aload_n 0, 1) := by decide +kernel
theorem dX11_chance_35 : decode cX11_chance 35 = .ok (.getfield 84, 3) := by decide +kernel
theorem dX11_chance_38 : decode cX11_chance 38 = .ok (.iconst 0, 1) := by decide +kernel
theorem dX11_chance_39 : decode cX11_chance 39 = .ok (.aaload, 1) := by decide +kernel
theorem dX11_chance_40 : decode cX11_chance 40 = .ok (.aload_n 0, 1) := by decide +kernel
theorem dX11_chance_41 : decode cX11_chance 41 = .ok (.getfield 47, 3) := by decide +kernel
theorem dX11_chance_44 : decode cX11_chance 44 = .ok (.invokevirtual 260, 3) := by decide +kernel
theorem dX11_chance_47 : decode cX11_chance 47 = .ok (.aload_n 0, 1) := by decide +kernel
theorem dX11_chance_48 : decode cX11_chance 48 = .ok (.iload_n 1, 1) := by decide +kernel
theorem dX11_chance_49 : decode cX11_chance 49 = .ok (.iconst 0, 1) := by decide +kernel
theorem dX11_chance_50 : decode cX11_chance 50 = .ok (.iload_n 2, 1) := by decide +kernel
theorem dX11_chance_51 : decode cX11_chance 51 = .ok (.iload_n 3, 1) := by decide +kernel
theorem dX11_chance_52 : decode cX11_chance 52 = .ok (.invokevirtual 265, 3) := by decide +kernel
theorem dX11_chance_55 : decode cX11_chance 55 = .ok (.istore 4, 2) := by decide +kernel
theorem dX11_chance_57 : decode cX11_chance 57 = .ok (.iload_n 2, 1) := by decide +kernel
theorem dX11_chance_58 : decode cX11_chance 58 = .ok (.istore 5, 2) := by decide +kernel
theorem dX11_chance_60 : decode cX11_chance 60 = .ok (.iload 5, 2) := by decide +kernel
theorem dX11_chance_62 : decode cX11_chance 62 = .ok (.bipush 6, 2) := by decide +kernel
theorem dX11_chance_64 : decode cX11_chance 64 = .ok (.if_icmp .ge 16, 3) := by decide +kernel
theorem dX11_chance_67 : decode cX11_chance 67 = .ok (.iload 4, 2) := by decide +kernel
theorem dX11_chance_69 : decode cX11_chance 69 = .ok (.bipush 10, 2) := by decide +kernel
theorem dX11_chance_71 : decode cX11_chance 71 = .ok (.imul, 1) := by decide +kernel
theorem dX11_chance_72 : decode cX11_chance 72 = .ok (.istore 4, 2) := by decide +kernel
theorem dX11_chance_74 : decode cX11_chance 74 = .ok (.iinc 5 1, 3) := by decide +kernel
theorem dX11_chance_77 : decode cX11_chance 77 = .ok (.goto (-17), 3) := by decide +kernel
theorem dX11_chance_80 : decode cX11_chance 80 = .ok (.iload 4, 2) := by decide +kernel
theorem dX11_chance_82 : decode cX11_chance 82 = .ok (.ireturn, 1) := by decide +kernel
abbrev mX11_chance : MI := (RX11, yX11_chance, cX11_chance, 6, some .int)
theorem cvX11_chance : CV mX11_chance 3 := ⟨⟨mw (i := 1005) (by decide +kernel), mw (i := 1) (by decide +kernel), ⟨by decide +kernel, by decide +kernel, by decide +kernel⟩, by decide⟩, mw (i := 1003) (by decide +kernel), mw (i := 1004) (by decide +kernel)⟩
def FX11_chance (a0 : Nat) (p1 : Int32) (p2 : Int32) (p3 : Int32) : PP Int32 := bd (FX4_hangs (rf a0 5) p1) (fun x1 => if ((b2i x1)) = 0 then pu (-1 : Int32) else if p2 < (1 : Int32) then pu (-1 : Int32) else if (6 : Int32) < p2 then pu (-1 : Int32) else if p3 < 0 then pu (-1 : Int32) else if p3 ≤ (10 : Int32) then bd (gd (ib (0 : Int32) 7 = true)) (fun (_ : Unit) => bd (FX4_copyFrom (rf (rf a0 11) (0 : Int32).toNatClampNeg) (rf a0 5)) (fun (_ : Unit) => bd (FX11_waysToDry 10 a0 p1 (0 : Int32) p2 p3) (fun x4 => bd (it (fun (s5 : Int32 × Int32) => (if (6 : Int32) ≤ s5.2 then pu (Sum.inr s5.1) else lt (s5.1 * (10 : Int32)) (fun y6 => lt (s5.2 + (1 : Int32)) (fun y7 => pu (Sum.inl (y6, y7)))) : PP ((Int32 × Int32) ⊕ (Int32)))) FU (x4, p2)) (fun (v8 : Int32) => pu v8)))) else pu (-1 : Int32))
set_option maxHeartbeats 4000000 in
set_option maxRecDepth 100000 in
theorem SX11_chance {l : Launch} {K : KK} {n : Nat} {hn : 270 ≤ n} (a0 : Nat) (p1 : Int32) (p2 : Int32) (p3 : Int32) (h0 : ob a0 10) : CT l K n 31 mX11_chance [.ref (K.2.1 + a0), .int p1, .int p2, .int p3] enI (FX11_chance a0 p1 p2 p3) := by
  refine CT.of2 (lv2 := [(0, .ref (K.2.1 + a0)), (1, .int p1), (2, .int p2), (3, .int p3)]) (by decide) rfl hn (Nat.le_of_ble_eq_true rfl) rfl (rp_id ?_)
  unfold FX11_chance
  refine rp_aload_n 0 dX11_chance_0 rfl ?_
  refine rp_getR fi_X11_47 h0 rfl dX11_chance_1 ?_
  refine rp_iload_n 1 dX11_chance_4 rfl ?_
  refine rp_callVz [.int p1] (SX4_hangs (hn := hn) (rf a0 5) p1 (tX11_5 h0)) cvX4_hangs (mw (i := 880) (by decide +kernel)) (by omega) (tX11_5 h0) (by decide) rfl rfl rfl (Nat.le_of_ble_eq_true rfl) dX11_chance_5 (fun x1 => ?_)
  refine rp_if_eq 32 dX11_chance_8 (by decide) ?_ ?_
  · refine rp_iconst (-1 : Int32) dX11_chance_32 (by decide) ?_
    exact rp_pu (rp_iret rfl dX11_chance_33)
  · refine rp_iload_n 2 dX11_chance_11 rfl ?_
    refine rp_iconst (1 : Int32) dX11_chance_12 (by decide) ?_
    refine rp_icmp_lt 32 dX11_chance_13 (by decide) ?_ ?_
    · refine rp_iconst (-1 : Int32) dX11_chance_32 (by decide) ?_
      exact rp_pu (rp_iret rfl dX11_chance_33)
    · refine rp_iload_n 2 dX11_chance_16 rfl ?_
      refine rp_bipush (6 : Int32) dX11_chance_17 (by decide) ?_
      refine rp_icmp_gt 32 dX11_chance_19 (by decide) ?_ ?_
      · refine rp_iconst (-1 : Int32) dX11_chance_32 (by decide) ?_
        exact rp_pu (rp_iret rfl dX11_chance_33)
      · refine rp_iload_n 3 dX11_chance_22 rfl ?_
        refine rp_if_lt 32 dX11_chance_23 (by decide) ?_ ?_
        · refine rp_iconst (-1 : Int32) dX11_chance_32 (by decide) ?_
          exact rp_pu (rp_iret rfl dX11_chance_33)
        · refine rp_iload_n 3 dX11_chance_26 rfl ?_
          refine rp_bipush (10 : Int32) dX11_chance_27 (by decide) ?_
          refine rp_icmp_le 34 dX11_chance_29 (by decide) ?_ ?_
          · refine rp_aload_n 0 dX11_chance_34 rfl ?_
            refine rp_getR fi_X11_84 h0 rfl dX11_chance_35 ?_
            refine rp_iconst (0 : Int32) dX11_chance_38 (by decide) ?_
            refine rp_aald (tX11_11 h0) (Or.inl rfl) dX11_chance_39 (fun hb2 => ?_)
            refine rp_aload_n 0 dX11_chance_40 rfl ?_
            refine rp_getR fi_X11_47 h0 rfl dX11_chance_41 ?_
            refine rp_callVv [.ref (K.2.1 + (rf a0 5))] (SX4_copyFrom (hn := hn) (rf (rf a0 11) (0 : Int32).toNatClampNeg) (rf a0 5) (arr4 (tX11_11 h0) hb2) (tX11_5 h0)) cvX4_copyFrom (mw (i := 988) (by decide +kernel)) (by omega) (arr4 (tX11_11 h0) hb2) (by decide) rfl rfl rfl (Nat.le_of_ble_eq_true rfl) dX11_chance_44 (fun x3 => ?_)
            refine rp_aload_n 0 dX11_chance_47 rfl ?_
            refine rp_iload_n 1 dX11_chance_48 rfl ?_
            refine rp_iconst (0 : Int32) dX11_chance_49 (by decide) ?_
            refine rp_iload_n 2 dX11_chance_50 rfl ?_
            refine rp_iload_n 3 dX11_chance_51 rfl ?_
            refine rp_callVi [.int p1, .int (0 : Int32), .int p2, .int p3] (SX11_waysToDry (hn := hn) 10 a0 p1 (0 : Int32) p2 p3 h0) cvX11_waysToDry (mw (i := 1006) (by decide +kernel)) (by omega) h0 (by decide) rfl rfl rfl (Nat.le_of_ble_eq_true rfl) dX11_chance_52 (fun x4 => ?_)
            refine rp_istore [(4, .int x4), (0, .ref (K.2.1 + a0)), (1, .int p1), (2, .int p2), (3, .int p3)] dX11_chance_55 (by decide) rfl ?_
            refine rp_iload_n 3 dX11_chance_57 rfl ?_
            refine rp_istore [(5, .int p2), (4, .int x4), (0, .ref (K.2.1 + a0)), (1, .int p1), (2, .int p2), (3, .int p3)] dX11_chance_58 (by decide) rfl ?_
            refine rp_as ?_
            refine rp_join 80 (fun v8 => [(4, .int v8)]) (fun _ => []) (fun v8 => ?_) (fun hX60_0 => ?_)
            · refine rp_iload 0 dX11_chance_80 rfl ?_
              exact rp_pu (rp_iret rfl dX11_chance_82)
            refine rp_sub [1, 0] rfl (rp_it (fun (s5 : Int32 × Int32) => [(4, .int s5.1), (5, .int s5.2)]) (fun N60 ih60 s5 => ?_) FU (x4, p2))
            refine rp_iload 1 dX11_chance_60 rfl ?_
            refine rp_bipush (6 : Int32) dX11_chance_62 (by decide) ?_
            refine rp_icmp_ge 80 dX11_chance_64 (by decide) ?_ ?_
            · exact rp_sub [0] rfl (rp_pu (hX60_0 s5.1))
            · refine rp_iload 0 dX11_chance_67 rfl ?_
              refine rp_bipush (10 : Int32) dX11_chance_69 (by decide) ?_
              refine rp_imul dX11_chance_71 ?_
              refine rp_lti (fun y6 => ?_)
              refine rp_istore [(4, .int y6), (5, .int s5.2)] dX11_chance_72 (by decide) rfl ?_
              refine rp_iinc (fun y7 => [(5, .int y7), (4, .int y6)]) 1 dX11_chance_74 rfl (by rfl) (by decide) (fun y7 => rfl) (fun y7 => ?_)
              refine rp_goto 60 dX11_chance_77 (by decide) ?_
              exact rp_sub [1, 0] rfl (ih60 (y6, y7))
          · refine rp_iconst (-1 : Int32) dX11_chance_32 (by decide) ?_
            exact rp_pu (rp_iret rfl dX11_chance_33)

theorem dX11_isWeather_0 : decode cX11_isWeather 0 = .ok (.iload_n 0, 1) := by decide +kernel
theorem dX11_isWeather_1 : decode cX11_isWeather 1 = .ok (.iconst (-1), 1) := by decide +kernel
theorem dX11_isWeather_2 : decode cX11_isWeather 2 = .ok (.if_icmp .lt 12, 3) := by decide +kernel
theorem dX11_isWeather_5 : decode cX11_isWeather 5 = .ok (.iload_n 0, 1) := by decide +kernel
theorem dX11_isWeather_6 : decode cX11_isWeather 6 = .ok (.iconst 4, 1) := by decide +kernel
theorem dX11_isWeather_7 : decode cX11_isWeather 7 = .ok (.if_icmp .ge 7, 3) := by decide +kernel
theorem dX11_isWeather_10 : decode cX11_isWeather 10 = .ok (.iconst 1, 1) := by decide +kernel
theorem dX11_isWeather_11 : decode cX11_isWeather 11 = .ok (.goto 4, 3) := by decide +kernel
theorem dX11_isWeather_14 : decode cX11_isWeather 14 = .ok (.iconst 0, 1) := by decide +kernel
theorem dX11_isWeather_15 : decode cX11_isWeather 15 = .ok (.ireturn, 1) := by decide +kernel
abbrev mX11_isWeather : MI := (RX11, yX11_isWeather, cX11_isWeather, 1, some .boolean)
theorem csX11_isWeather : CS mX11_isWeather 1 := ⟨⟨mw (i := 1016) (by decide +kernel), mw (i := 1) (by decide +kernel), ⟨by decide +kernel, by decide +kernel, by decide +kernel⟩, by decide⟩, mw (i := 1015) (by decide +kernel)⟩
def FX11_isWeather (p1 : Int32) : PP Bool := bd (if p1 < (-1 : Int32) then pu (0 : Int32) else if (4 : Int32) ≤ p1 then pu (0 : Int32) else pu (1 : Int32) : PP (Int32)) (fun (v1 : Int32) => zb v1)
set_option maxHeartbeats 4000000 in
set_option maxRecDepth 100000 in
theorem SX11_isWeather {l : Launch} {K : KK} {n : Nat} {hn : 270 ≤ n} (p1 : Int32) : CT l K n 0 mX11_isWeather [.int p1] enZ (FX11_isWeather p1) := by
  refine CT.of2 (lv2 := [(0, .int p1)]) (by decide) rfl hn (Nat.le_of_ble_eq_true rfl) rfl (rp_id ?_)
  unfold FX11_isWeather
  refine rp_iload_n 0 dX11_isWeather_0 rfl ?_
  refine rp_iconst (-1 : Int32) dX11_isWeather_1 (by decide) ?_
  refine rp_as ?_
  refine rp_join 15 (fun (v1 : Int32) => []) (fun v1 => [.int v1]) (fun v1 => ?_) (fun hJ15 => ?_)
  · exact rp_zretb rfl dX11_isWeather_15
  refine rp_icmp_lt 14 dX11_isWeather_2 (by decide) ?_ ?_
  · refine rp_iconst (0 : Int32) dX11_isWeather_14 (by decide) ?_
    exact rp_sub [] rfl (rp_pu (hJ15 (0 : Int32)))
  · refine rp_iload_n 0 dX11_isWeather_5 rfl ?_
    refine rp_iconst (4 : Int32) dX11_isWeather_6 (by decide) ?_
    refine rp_icmp_ge 14 dX11_isWeather_7 (by decide) ?_ ?_
    · refine rp_iconst (0 : Int32) dX11_isWeather_14 (by decide) ?_
      exact rp_sub [] rfl (rp_pu (hJ15 (0 : Int32)))
    · refine rp_iconst (1 : Int32) dX11_isWeather_10 (by decide) ?_
      refine rp_goto 15 dX11_isWeather_11 (by decide) ?_
      exact rp_sub [] rfl (rp_pu (hJ15 (1 : Int32)))

theorem dX11_want_0 : decode cX11_want 0 = .ok (.aload_n 0, 1) := by decide +kernel
theorem dX11_want_1 : decode cX11_want 1 = .ok (.getfield 19, 3) := by decide +kernel
theorem dX11_want_4 : decode cX11_want 4 = .ok (.iload_n 1, 1) := by decide +kernel
theorem dX11_want_5 : decode cX11_want 5 = .ok (.invokevirtual 167, 3) := by decide +kernel
theorem dX11_want_8 : decode cX11_want 8 = .ok (.ifCond .eq 10, 3) := by decide +kernel
theorem dX11_want_11 : decode cX11_want 11 = .ok (.iload_n 2, 1) := by decide +kernel
theorem dX11_want_12 : decode cX11_want 12 = .ok (.invokestatic 269, 3) := by decide +kernel
theorem dX11_want_15 : decode cX11_want 15 = .ok (.ifCond .ne 5, 3) := by decide +kernel
theorem dX11_want_18 : decode cX11_want 18 = .ok (.iconst 0, 1) := by decide +kernel
theorem dX11_want_19 : decode cX11_want 19 = .ok (.ireturn, 1) := by decide +kernel
theorem dX11_want_20 : decode cX11_want 20 = .ok (.aload_n 0, 1) := by decide +kernel
theorem dX11_want_21 : decode cX11_want 21 = .ok (.getfield 66, 3) := by decide +kernel
theorem dX11_want_24 : decode cX11_want 24 = .ok (.getfield 272, 3) := by decide +kernel
theorem dX11_want_27 : decode cX11_want 27 = .ok (.iload_n 1, 1) := by decide +kernel
theorem dX11_want_28 : decode cX11_want 28 = .ok (.iload_n 2, 1) := by decide +kernel
theorem dX11_want_29 : decode cX11_want 29 = .ok (.iastore, 1) := by decide +kernel
theorem dX11_want_30 : decode cX11_want 30 = .ok (.iconst 1, 1) := by decide +kernel
theorem dX11_want_31 : decode cX11_want 31 = .ok (.ireturn, 1) := by decide +kernel
abbrev mX11_want : MI := (RX11, yX11_want, cX11_want, 3, some .boolean)
theorem cvX11_want : CV mX11_want 2 := ⟨⟨mw (i := 1013) (by decide +kernel), mw (i := 1) (by decide +kernel), ⟨by decide +kernel, by decide +kernel, by decide +kernel⟩, by decide⟩, mw (i := 1011) (by decide +kernel), mw (i := 1012) (by decide +kernel)⟩
def FX11_want (a0 : Nat) (p1 : Int32) (p2 : Int32) : PP Bool := bd (FX7_hasPlace (rf a0 1) p1) (fun x1 => if ((b2i x1)) = 0 then zb (0 : Int32) else bd (FX11_isWeather p2) (fun x2 => if ((b2i x2)) = 0 then zb (0 : Int32) else bd (uI (rf (rf a0 8) 0) 4 p1 p2) (fun (_ : Unit) => zb (1 : Int32))))
set_option maxHeartbeats 4000000 in
set_option maxRecDepth 100000 in
theorem SX11_want {l : Launch} {K : KK} {n : Nat} {hn : 270 ≤ n} (a0 : Nat) (p1 : Int32) (p2 : Int32) (h0 : ob a0 10) : CT l K n 1 mX11_want [.ref (K.2.1 + a0), .int p1, .int p2] enZ (FX11_want a0 p1 p2) := by
  refine CT.of2 (lv2 := [(0, .ref (K.2.1 + a0)), (1, .int p1), (2, .int p2)]) (by decide) rfl hn (Nat.le_of_ble_eq_true rfl) rfl (rp_id ?_)
  unfold FX11_want
  refine rp_aload_n 0 dX11_want_0 rfl ?_
  refine rp_getR fi_X11_19 h0 rfl dX11_want_1 ?_
  refine rp_iload_n 1 dX11_want_4 rfl ?_
  refine rp_callVz [.int p1] (SX7_hasPlace (hn := hn) (rf a0 1) p1 (tX11_1 h0)) cvX7_hasPlace (mw (i := 804) (by decide +kernel)) (by omega) (tX11_1 h0) (by decide) rfl rfl rfl (Nat.le_of_ble_eq_true rfl) dX11_want_5 (fun x1 => ?_)
  refine rp_if_eq 18 dX11_want_8 (by decide) ?_ ?_
  · refine rp_iconst (0 : Int32) dX11_want_18 (by decide) ?_
    exact rp_zretb rfl dX11_want_19
  · refine rp_iload_n 2 dX11_want_11 rfl ?_
    refine rp_callSz [.int p2] (SX11_isWeather (hn := hn) p2) csX11_isWeather (mw (i := 1014) (by decide +kernel)) (by omega) rfl rfl (Nat.le_of_ble_eq_true rfl) dX11_want_12 (fun x2 => ?_)
    refine rp_if_ne 20 dX11_want_15 (by decide) ?_ ?_
    · refine rp_aload_n 0 dX11_want_20 rfl ?_
      refine rp_getR fi_X11_66 h0 rfl dX11_want_21 ?_
      refine rp_getR fi_X11_272 (tX11_8 h0) rfl dX11_want_24 ?_
      refine rp_iload_n 1 dX11_want_27 rfl ?_
      refine rp_iload_n 2 dX11_want_28 rfl ?_
      refine rp_iast (tX9_0 (tX11_8 h0)) dX11_want_29 ?_
      refine rp_iconst (1 : Int32) dX11_want_30 (by decide) ?_
      exact rp_zretb rfl dX11_want_31
    · refine rp_iconst (0 : Int32) dX11_want_18 (by decide) ?_
      exact rp_zretb rfl dX11_want_19

theorem dX11_wish_0 : decode cX11_wish 0 = .ok (.iload_n 1, 1) := by decide +kernel
theorem dX11_wish_1 : decode cX11_wish 1 = .ok (.iconst (-1), 1) := by decide +kernel
theorem dX11_wish_2 : decode cX11_wish 2 = .ok (.if_icmp .eq 17, 3) := by decide +kernel
theorem dX11_wish_5 : decode cX11_wish 5 = .ok (.aload_n 0, 1) := by decide +kernel
theorem dX11_wish_6 : decode cX11_wish 6 = .ok (.getfield 19, 3) := by decide +kernel
theorem dX11_wish_9 : decode cX11_wish 9 = .ok (.iload_n 1, 1) := by decide +kernel
theorem dX11_wish_10 : decode cX11_wish 10 = .ok (.invokevirtual 149, 3) := by decide +kernel
theorem dX11_wish_13 : decode cX11_wish 13 = .ok (.ifCond .ne 6, 3) := by decide +kernel
theorem dX11_wish_16 : decode cX11_wish 16 = .ok (.bipush (-2), 2) := by decide +kernel
theorem dX11_wish_18 : decode cX11_wish 18 = .ok (.ireturn, 1) := by decide +kernel
theorem dX11_wish_19 : decode cX11_wish 19 = .ok (.aload_n 0, 1) := by decide +kernel
theorem dX11_wish_20 : decode cX11_wish 20 = .ok (.getfield 66, 3) := by decide +kernel
theorem dX11_wish_23 : decode cX11_wish 23 = .ok (.aload_n 0, 1) := by decide +kernel
theorem dX11_wish_24 : decode cX11_wish 24 = .ok (.getfield 47, 3) := by decide +kernel
theorem dX11_wish_27 : decode cX11_wish 27 = .ok (.invokevirtual 275, 3) := by decide +kernel
theorem dX11_wish_30 : decode cX11_wish 30 = .ok (.istore_n 2, 1) := by decide +kernel
theorem dX11_wish_31 : decode cX11_wish 31 = .ok (.iload_n 2, 1) := by decide +kernel
theorem dX11_wish_32 : decode cX11_wish 32 = .ok (.iconst (-1), 1) := by decide +kernel
theorem dX11_wish_33 : decode cX11_wish 33 = .ok (.if_icmp .ne 6, 3) := by decide +kernel
theorem dX11_wish_36 : decode cX11_wish 36 = .ok (.bipush (-2), 2) := by decide +kernel
theorem dX11_wish_38 : decode cX11_wish 38 = .ok (.ireturn, 1) := by decide +kernel
theorem dX11_wish_39 : decode cX11_wish 39 = .ok (.iload_n 1, 1) := by decide +kernel
theorem dX11_wish_40 : decode cX11_wish 40 = .ok (.iconst (-1), 1) := by decide +kernel
theorem dX11_wish_41 : decode cX11_wish 41 = .ok (.if_icmp .ne 7, 3) := by decide +kernel
theorem dX11_wish_44 : decode cX11_wish 44 = .ok (.iload_n 2, 1) := by decide +kernel
theorem dX11_wish_45 : decode cX11_wish 45 = .ok (.goto 12, 3) := by decide +kernel
theorem dX11_wish_48 : decode cX11_wish 48 = .ok (.aload_n 0, 1) := by decide +kernel
theorem dX11_wish_49 : decode cX11_wish 49 = .ok (.getfield 66, 3) := by decide +kernel
theorem dX11_wish_52 : decode cX11_wish 52 = .ok (.getfield 279, 3) := by decide +kernel
theorem dX11_wish_55 : decode cX11_wish 55 = .ok (.iload_n 1, 1) := by decide +kernel
theorem dX11_wish_56 : decode cX11_wish 56 = .ok (.iaload, 1) := by decide +kernel
theorem dX11_wish_57 : decode cX11_wish 57 = .ok (.ireturn, 1) := by decide +kernel
abbrev mX11_wish : MI := (RX11, yX11_wish, cX11_wish, 3, some .int)
theorem cvX11_wish : CV mX11_wish 1 := ⟨⟨mw (i := 1020) (by decide +kernel), mw (i := 1) (by decide +kernel), ⟨by decide +kernel, by decide +kernel, by decide +kernel⟩, by decide⟩, mw (i := 1018) (by decide +kernel), mw (i := 1019) (by decide +kernel)⟩
def FX11_wish (a0 : Nat) (p1 : Int32) : PP Int32 := jn (fun (v3 : Unit) => bd (FX9_fewest (rf a0 8) (rf a0 5)) (fun x4 => if x4 = (-1 : Int32) then pu (-2 : Int32) else bd (if p1 = (-1 : Int32) then pu x4 else bd (aI (rf (rf a0 8) 1) 6 p1) (fun x5 => pu x5) : PP (Int32)) (fun (v6 : Int32) => pu v6))) (fun j1 => if p1 = (-1 : Int32) then j1 () else bd (FX7_hasCloth (rf a0 1) p1) (fun x2 => if ((b2i x2)) = 0 then pu (-2 : Int32) else j1 ()))
set_option maxHeartbeats 4000000 in
set_option maxRecDepth 100000 in
theorem SX11_wish {l : Launch} {K : KK} {n : Nat} {hn : 270 ≤ n} (a0 : Nat) (p1 : Int32) (h0 : ob a0 10) : CT l K n 42 mX11_wish [.ref (K.2.1 + a0), .int p1] enI (FX11_wish a0 p1) := by
  refine CT.of2 (lv2 := [(0, .ref (K.2.1 + a0)), (1, .int p1)]) (by decide) rfl hn (Nat.le_of_ble_eq_true rfl) rfl (rp_id ?_)
  unfold FX11_wish
  refine rp_iload_n 1 dX11_wish_0 rfl ?_
  refine rp_iconst (-1 : Int32) dX11_wish_1 (by decide) ?_
  refine rp_jn2 19 (fun (v3 : Unit) => [(0, .ref (K.2.1 + a0)), (1, .int p1)]) (fun v3 => []) (fun v3 => ?_) (fun hK19 => ?_)
  · refine rp_aload_n 0 dX11_wish_19 rfl ?_
    refine rp_getR fi_X11_66 h0 rfl dX11_wish_20 ?_
    refine rp_aload_n 0 dX11_wish_23 rfl ?_
    refine rp_getR fi_X11_47 h0 rfl dX11_wish_24 ?_
    refine rp_callVi [.ref (K.2.1 + (rf a0 5))] (SX9_fewest (hn := hn) (rf a0 8) (rf a0 5) (tX11_8 h0) (tX11_5 h0)) cvX9_fewest (mw (i := 1021) (by decide +kernel)) (by omega) (tX11_8 h0) (by decide) rfl rfl rfl (Nat.le_of_ble_eq_true rfl) dX11_wish_27 (fun x4 => ?_)
    refine rp_istore_n [(2, .int x4), (0, .ref (K.2.1 + a0)), (1, .int p1)] dX11_wish_30 (by decide) rfl ?_
    refine rp_iload_n 0 dX11_wish_31 rfl ?_
    refine rp_iconst (-1 : Int32) dX11_wish_32 (by decide) ?_
    refine rp_icmp_ne 39 dX11_wish_33 (by decide) ?_ ?_
    · refine rp_iload_n 2 dX11_wish_39 rfl ?_
      refine rp_iconst (-1 : Int32) dX11_wish_40 (by decide) ?_
      refine rp_as ?_
      refine rp_join 57 (fun (v6 : Int32) => []) (fun v6 => [.int v6]) (fun v6 => ?_) (fun hJ57 => ?_)
      · exact rp_pu (rp_iret rfl dX11_wish_57)
      refine rp_icmp_ne 48 dX11_wish_41 (by decide) ?_ ?_
      · refine rp_aload_n 1 dX11_wish_48 rfl ?_
        refine rp_getR fi_X11_66 h0 rfl dX11_wish_49 ?_
        refine rp_getR fi_X11_279 (tX11_8 h0) rfl dX11_wish_52 ?_
        refine rp_iload_n 2 dX11_wish_55 rfl ?_
        refine rp_iald (tX9_1 (tX11_8 h0)) dX11_wish_56 (fun x5 => ?_)
        exact rp_sub [] rfl (rp_pu (hJ57 x5))
      · refine rp_iload_n 0 dX11_wish_44 rfl ?_
        refine rp_goto 57 dX11_wish_45 (by decide) ?_
        exact rp_sub [] rfl (rp_pu (hJ57 x4))
    · refine rp_bipush (-2 : Int32) dX11_wish_36 (by decide) ?_
      exact rp_pu (rp_iret rfl dX11_wish_38)
  refine rp_icmp_eq 19 dX11_wish_2 (by decide) ?_ ?_
  · exact rp_sub [0, 1] rfl (hK19 ())
  · refine rp_aload_n 0 dX11_wish_5 rfl ?_
    refine rp_getR fi_X11_19 h0 rfl dX11_wish_6 ?_
    refine rp_iload_n 1 dX11_wish_9 rfl ?_
    refine rp_callVz [.int p1] (SX7_hasCloth (hn := hn) (rf a0 1) p1 (tX11_1 h0)) cvX7_hasCloth (mw (i := 796) (by decide +kernel)) (by omega) (tX11_1 h0) (by decide) rfl rfl rfl (Nat.le_of_ble_eq_true rfl) dX11_wish_10 (fun x2 => ?_)
    refine rp_if_ne 19 dX11_wish_13 (by decide) ?_ ?_
    · exact rp_sub [0, 1] rfl (hK19 ())
    · refine rp_bipush (-2 : Int32) dX11_wish_16 (by decide) ?_
      exact rp_pu (rp_iret rfl dX11_wish_18)

theorem dX11_lift_0 : decode cX11_lift 0 = .ok (.aload_n 0, 1) := by decide +kernel
theorem dX11_lift_1 : decode cX11_lift 1 = .ok (.getfield 19, 3) := by decide +kernel
theorem dX11_lift_4 : decode cX11_lift 4 = .ok (.iload_n 1, 1) := by decide +kernel
theorem dX11_lift_5 : decode cX11_lift 5 = .ok (.invokevirtual 167, 3) := by decide +kernel
theorem dX11_lift_8 : decode cX11_lift 8 = .ok (.ifCond .eq 10, 3) := by decide +kernel
theorem dX11_lift_11 : decode cX11_lift 11 = .ok (.iload_n 2, 1) := by decide +kernel
theorem dX11_lift_12 : decode cX11_lift 12 = .ok (.invokestatic 269, 3) := by decide +kernel
theorem dX11_lift_15 : decode cX11_lift 15 = .ok (.ifCond .ne 5, 3) := by decide +kernel
theorem dX11_lift_18 : decode cX11_lift 18 = .ok (.iconst (-1), 1) := by decide +kernel
theorem dX11_lift_19 : decode cX11_lift 19 = .ok (.ireturn, 1) := by decide +kernel
theorem dX11_lift_20 : decode cX11_lift 20 = .ok (.aload_n 0, 1) := by decide +kernel
theorem dX11_lift_21 : decode cX11_lift 21 = .ok (.getfield 47, 3) := by decide +kernel
theorem dX11_lift_24 : decode cX11_lift 24 = .ok (.invokevirtual 195, 3) := by decide +kernel
theorem dX11_lift_27 : decode cX11_lift 27 = .ok (.istore_n 3, 1) := by decide +kernel
theorem dX11_lift_28 : decode cX11_lift 28 = .ok (.iconst (-1), 1) := by decide +kernel
theorem dX11_lift_29 : decode cX11_lift 29 = .ok (.istore 4, 2) := by decide +kernel
theorem dX11_lift_31 : decode cX11_lift 31 = .ok (.bipush 7, 2) := by decide +kernel
theorem dX11_lift_33 : decode cX11_lift 33 = .ok (.istore 5, 2) := by decide +kernel
theorem dX11_lift_35 : decode cX11_lift 35 = .ok (.iconst 0, 1) := by decide +kernel
theorem dX11_lift_36 : decode cX11_lift 36 = .ok (.istore 6, 2) := by decide +kernel
theorem dX11_lift_38 : decode cX11_lift 38 = .ok (.iload 6, 2) := by decide +kernel
theorem dX11_lift_40 : decode cX11_lift 40 = .ok (.iload_n 3, 1) := by decide +kernel
theorem dX11_lift_41 : decode cX11_lift 41 = .ok (.if_icmp .gt 54, 3) := by decide +kernel
theorem dX11_lift_44 : decode cX11_lift 44 = .ok (.iload 6, 2) := by decide +kernel
theorem dX11_lift_46 : decode cX11_lift 46 = .ok (.invokestatic 255, 3) := by decide +kernel
theorem dX11_lift_49 : decode cX11_lift 49 = .ok (.istore 7, 2) := by decide +kernel
theorem dX11_lift_51 : decode cX11_lift 51 = .ok (.iload 6, 2) := by decide +kernel
theorem dX11_lift_53 : decode cX11_lift 53 = .ok (.iload_n 3, 1) := by decide +kernel
theorem dX11_lift_54 : decode cX11_lift 54 = .ok (.iconst (-1), 1) := by decide +kernel
theorem dX11_lift_55 : decode cX11_lift 55 = .ok (.ixor, 1) := by decide +kernel
theorem dX11_lift_56 : decode cX11_lift 56 = .ok (.iand, 1) := by decide +kernel
theorem dX11_lift_57 : decode cX11_lift 57 = .ok (.ifCond .ne 32, 3) := by decide +kernel
theorem dX11_lift_60 : decode cX11_lift 60 = .ok (.iload 7, 2) := by decide +kernel
theorem dX11_lift_62 : decode cX11_lift 62 = .ok (.iload 5, 2) := by decide +kernel
theorem dX11_lift_64 : decode cX11_lift 64 = .ok (.if_icmp .ge 25, 3) := by decide +kernel
theorem dX11_lift_67 : decode cX11_lift 67 = .ok (.aload_n 0, 1) := by decide +kernel
theorem dX11_lift_68 : decode cX11_lift 68 = .ok (.getfield 47, 3) := by decide +kernel
theorem dX11_lift_71 : decode cX11_lift 71 = .ok (.iload_n 1, 1) := by decide +kernel
theorem dX11_lift_72 : decode cX11_lift 72 = .ok (.iload 6, 2) := by decide +kernel
theorem dX11_lift_74 : decode cX11_lift 74 = .ok (.invokevirtual 170, 3) := by decide +kernel
theorem dX11_lift_77 : decode cX11_lift 77 = .ok (.iload_n 2, 1) := by decide +kernel
theorem dX11_lift_78 : decode cX11_lift 78 = .ok (.if_icmp .ne 11, 3) := by decide +kernel
theorem dX11_lift_81 : decode cX11_lift 81 = .ok (.iload 6, 2) := by decide +kernel
theorem dX11_lift_83 : decode cX11_lift 83 = .ok (.istore 4, 2) := by decide +kernel
theorem dX11_lift_85 : decode cX11_lift 85 = .ok (.iload 7, 2) := by decide +kernel
theorem dX11_lift_87 : decode cX11_lift 87 = .ok (.istore 5, 2) := by decide +kernel
theorem dX11_lift_89 : decode cX11_lift 89 = .ok (.iinc 6 1, 3) := by decide +kernel
theorem dX11_lift_92 : decode cX11_lift 92 = .ok (.goto (-54), 3) := by decide +kernel
theorem dX11_lift_95 : decode cX11_lift 95 = .ok (.iload 4, 2) := by decide +kernel
theorem dX11_lift_97 : decode cX11_lift 97 = .ok (.ireturn, 1) := by decide +kernel
abbrev mX11_lift : MI := (RX11, yX11_lift, cX11_lift, 8, some .int)
theorem cvX11_lift : CV mX11_lift 2 := ⟨⟨mw (i := 1065) (by decide +kernel), mw (i := 1) (by decide +kernel), ⟨by decide +kernel, by decide +kernel, by decide +kernel⟩, by decide⟩, mw (i := 1063) (by decide +kernel), mw (i := 1064) (by decide +kernel)⟩
def FX11_lift (a0 : Nat) (p1 : Int32) (p2 : Int32) : PP Int32 := bd (FX7_hasPlace (rf a0 1) p1) (fun x1 => if ((b2i x1)) = 0 then pu (-1 : Int32) else bd (FX11_isWeather p2) (fun x2 => if ((b2i x2)) = 0 then pu (-1 : Int32) else bd (FX4_hanging (rf a0 5)) (fun x3 => bd (it (fun (s4 : Int32 × Int32 × Int32) => (if x3 < s4.2.2 then pu (Sum.inr s4.1) else bd (FJ6_bitCount_0f7a4 s4.2.2) (fun x5 => bd (if (s4.2.2 &&& (x3 ^^^ (-1 : Int32))) = 0 then if s4.2.1 ≤ x5 then pu (s4.1, s4.2.1) else bd (FX4_weather (rf a0 5) p1 s4.2.2) (fun x6 => if x6 = p2 then pu (s4.2.2, x5) else pu (s4.1, s4.2.1)) else pu (s4.1, s4.2.1) : PP (Int32 × Int32)) (fun (v7 : Int32 × Int32) => lt (s4.2.2 + (1 : Int32)) (fun y8 => pu (Sum.inl (v7.1, v7.2, y8))))) : PP ((Int32 × Int32 × Int32) ⊕ (Int32)))) FU ((-1 : Int32), (7 : Int32), (0 : Int32))) (fun (v9 : Int32) => pu v9))))
set_option maxHeartbeats 4000000 in
set_option maxRecDepth 100000 in
theorem SX11_lift {l : Launch} {K : KK} {n : Nat} {hn : 270 ≤ n} (a0 : Nat) (p1 : Int32) (p2 : Int32) (h0 : ob a0 10) : CT l K n 2 mX11_lift [.ref (K.2.1 + a0), .int p1, .int p2] enI (FX11_lift a0 p1 p2) := by
  refine CT.of2 (lv2 := [(0, .ref (K.2.1 + a0)), (1, .int p1), (2, .int p2)]) (by decide) rfl hn (Nat.le_of_ble_eq_true rfl) rfl (rp_id ?_)
  unfold FX11_lift
  refine rp_aload_n 0 dX11_lift_0 rfl ?_
  refine rp_getR fi_X11_19 h0 rfl dX11_lift_1 ?_
  refine rp_iload_n 1 dX11_lift_4 rfl ?_
  refine rp_callVz [.int p1] (SX7_hasPlace (hn := hn) (rf a0 1) p1 (tX11_1 h0)) cvX7_hasPlace (mw (i := 804) (by decide +kernel)) (by omega) (tX11_1 h0) (by decide) rfl rfl rfl (Nat.le_of_ble_eq_true rfl) dX11_lift_5 (fun x1 => ?_)
  refine rp_if_eq 18 dX11_lift_8 (by decide) ?_ ?_
  · refine rp_iconst (-1 : Int32) dX11_lift_18 (by decide) ?_
    exact rp_pu (rp_iret rfl dX11_lift_19)
  · refine rp_iload_n 2 dX11_lift_11 rfl ?_
    refine rp_callSz [.int p2] (SX11_isWeather (hn := hn) p2) csX11_isWeather (mw (i := 1014) (by decide +kernel)) (by omega) rfl rfl (Nat.le_of_ble_eq_true rfl) dX11_lift_12 (fun x2 => ?_)
    refine rp_if_ne 20 dX11_lift_15 (by decide) ?_ ?_
    · refine rp_aload_n 0 dX11_lift_20 rfl ?_
      refine rp_getR fi_X11_47 h0 rfl dX11_lift_21 ?_
      refine rp_callVi [] (SX4_hanging (hn := hn) (rf a0 5) (tX11_5 h0)) cvX4_hanging (mw (i := 831) (by decide +kernel)) (by omega) (tX11_5 h0) (by decide) rfl rfl rfl (Nat.le_of_ble_eq_true rfl) dX11_lift_24 (fun x3 => ?_)
      refine rp_istore_n [(3, .int x3), (0, .ref (K.2.1 + a0)), (1, .int p1), (2, .int p2)] dX11_lift_27 (by decide) rfl ?_
      refine rp_iconst (-1 : Int32) dX11_lift_28 (by decide) ?_
      refine rp_istore [(4, .int (-1 : Int32)), (3, .int x3), (0, .ref (K.2.1 + a0)), (1, .int p1), (2, .int p2)] dX11_lift_29 (by decide) rfl ?_
      refine rp_bipush (7 : Int32) dX11_lift_31 (by decide) ?_
      refine rp_istore [(5, .int (7 : Int32)), (4, .int (-1 : Int32)), (3, .int x3), (0, .ref (K.2.1 + a0)), (1, .int p1), (2, .int p2)] dX11_lift_33 (by decide) rfl ?_
      refine rp_iconst (0 : Int32) dX11_lift_35 (by decide) ?_
      refine rp_istore [(6, .int (0 : Int32)), (5, .int (7 : Int32)), (4, .int (-1 : Int32)), (3, .int x3), (0, .ref (K.2.1 + a0)), (1, .int p1), (2, .int p2)] dX11_lift_36 (by decide) rfl ?_
      refine rp_as ?_
      refine rp_join 95 (fun v9 => [(4, .int v9)]) (fun _ => []) (fun v9 => ?_) (fun hX38_0 => ?_)
      · refine rp_iload 0 dX11_lift_95 rfl ?_
        exact rp_pu (rp_iret rfl dX11_lift_97)
      refine rp_sub [4, 5, 6, 3, 2, 1, 0] rfl (rp_it (fun (s4 : Int32 × Int32 × Int32) => [(0, .ref (K.2.1 + a0)), (1, .int p1), (2, .int p2), (3, .int x3), (4, .int s4.1), (5, .int s4.2.1), (6, .int s4.2.2)]) (fun N38 ih38 s4 => ?_) FU ((-1 : Int32), (7 : Int32), (0 : Int32)))
      refine rp_iload 6 dX11_lift_38 rfl ?_
      refine rp_iload_n 3 dX11_lift_40 rfl ?_
      refine rp_icmp_gt 95 dX11_lift_41 (by decide) ?_ ?_
      · exact rp_sub [4] rfl (rp_pu (hX38_0 s4.1))
      · refine rp_iload 6 dX11_lift_44 rfl ?_
        refine rp_callSi [.int s4.2.2] (SJ6_bitCount_0f7a4 (hn := hn) s4.2.2) csJ6_bitCount_0f7a4 (mw (i := 978) (by decide +kernel)) (by omega) rfl rfl (Nat.le_of_ble_eq_true rfl) dX11_lift_46 (fun x5 => ?_)
        refine rp_istore [(7, .int x5), (0, .ref (K.2.1 + a0)), (1, .int p1), (2, .int p2), (3, .int x3), (4, .int s4.1), (5, .int s4.2.1), (6, .int s4.2.2)] dX11_lift_49 (by decide) rfl ?_
        refine rp_iload 7 dX11_lift_51 rfl ?_
        refine rp_iload_n 4 dX11_lift_53 rfl ?_
        refine rp_iconst (-1 : Int32) dX11_lift_54 (by decide) ?_
        refine rp_ixor dX11_lift_55 ?_
        refine rp_iand dX11_lift_56 ?_
        refine rp_as ?_
        refine rp_join 89 (fun (v7 : Int32 × Int32) => [(0, .ref (K.2.1 + a0)), (1, .int p1), (2, .int p2), (3, .int x3), (4, .int v7.1), (5, .int v7.2), (6, .int s4.2.2)]) (fun v7 => []) (fun v7 => ?_) (fun hJ89 => ?_)
        · refine rp_iinc (fun y8 => [(6, .int y8), (0, .ref (K.2.1 + a0)), (1, .int p1), (2, .int p2), (3, .int x3), (4, .int v7.1), (5, .int v7.2)]) 6 dX11_lift_89 rfl (by rfl) (by decide) (fun y8 => rfl) (fun y8 => ?_)
          refine rp_goto 38 dX11_lift_92 (by decide) ?_
          exact rp_sub [1, 2, 3, 4, 5, 6, 0] rfl (ih38 (v7.1, v7.2, y8))
        refine rp_if_ne 89 dX11_lift_57 (by decide) ?_ ?_
        · exact rp_sub [1, 2, 3, 4, 5, 6, 7] rfl (rp_pu (hJ89 (s4.1, s4.2.1)))
        · refine rp_iload 0 dX11_lift_60 rfl ?_
          refine rp_iload 6 dX11_lift_62 rfl ?_
          refine rp_icmp_ge 89 dX11_lift_64 (by decide) ?_ ?_
          · exact rp_sub [1, 2, 3, 4, 5, 6, 7] rfl (rp_pu (hJ89 (s4.1, s4.2.1)))
          · refine rp_aload_n 1 dX11_lift_67 rfl ?_
            refine rp_getR fi_X11_47 h0 rfl dX11_lift_68 ?_
            refine rp_iload_n 2 dX11_lift_71 rfl ?_
            refine rp_iload 7 dX11_lift_72 rfl ?_
            refine rp_callVi [.int p1, .int s4.2.2] (SX4_weather (hn := hn) (rf a0 5) p1 s4.2.2 (tX11_5 h0)) cvX4_weather (mw (i := 808) (by decide +kernel)) (by omega) (tX11_5 h0) (by decide) rfl rfl rfl (Nat.le_of_ble_eq_true rfl) dX11_lift_74 (fun x6 => ?_)
            refine rp_iload_n 3 dX11_lift_77 rfl ?_
            refine rp_icmp_ne 89 dX11_lift_78 (by decide) ?_ ?_
            · exact rp_sub [1, 2, 3, 4, 5, 6, 7] rfl (rp_pu (hJ89 (s4.1, s4.2.1)))
            · refine rp_iload 7 dX11_lift_81 rfl ?_
              refine rp_istore [(4, .int s4.2.2), (7, .int x5), (0, .ref (K.2.1 + a0)), (1, .int p1), (2, .int p2), (3, .int x3), (5, .int s4.2.1), (6, .int s4.2.2)] dX11_lift_83 (by decide) rfl ?_
              refine rp_iload 1 dX11_lift_85 rfl ?_
              refine rp_istore [(5, .int x5), (4, .int s4.2.2), (7, .int x5), (0, .ref (K.2.1 + a0)), (1, .int p1), (2, .int p2), (3, .int x3), (6, .int s4.2.2)] dX11_lift_87 (by decide) rfl ?_
              exact rp_sub [3, 4, 5, 6, 1, 0, 7] rfl (rp_pu (hJ89 (s4.2.2, x5)))
    · refine rp_iconst (-1 : Int32) dX11_lift_18 (by decide) ?_
      exact rp_pu (rp_iret rfl dX11_lift_19)

theorem dX11_tell_0 : decode cX11_tell 0 = .ok (.aload_n 0, 1) := by decide +kernel
theorem dX11_tell_1 : decode cX11_tell 1 = .ok (.getfield 19, 3) := by decide +kernel
theorem dX11_tell_4 : decode cX11_tell 4 = .ok (.iload_n 1, 1) := by decide +kernel
theorem dX11_tell_5 : decode cX11_tell 5 = .ok (.invokevirtual 167, 3) := by decide +kernel
theorem dX11_tell_8 : decode cX11_tell 8 = .ok (.ifCond .eq 20, 3) := by decide +kernel
theorem dX11_tell_11 : decode cX11_tell 11 = .ok (.iload_n 2, 1) := by decide +kernel
theorem dX11_tell_12 : decode cX11_tell 12 = .ok (.ifCond .lt 16, 3) := by decide +kernel
theorem dX11_tell_15 : decode cX11_tell 15 = .ok (.iload_n 2, 1) := by decide +kernel
theorem dX11_tell_16 : decode cX11_tell 16 = .ok (.bipush 12, 2) := by decide +kernel
theorem dX11_tell_18 : decode cX11_tell 18 = .ok (.if_icmp .gt 10, 3) := by decide +kernel
theorem dX11_tell_21 : decode cX11_tell 21 = .ok (.iload_n 3, 1) := by decide +kernel
theorem dX11_tell_22 : decode cX11_tell 22 = .ok (.invokestatic 269, 3) := by decide +kernel
theorem dX11_tell_25 : decode cX11_tell 25 = .ok (.ifCond .ne 5, 3) := by decide +kernel
theorem dX11_tell_28 : decode cX11_tell 28 = .ok (.iconst 0, 1) := by decide +kernel
theorem dX11_tell_29 : decode cX11_tell 29 = .ok (.ireturn, 1) := by decide +kernel
theorem dX11_tell_30 : decode cX11_tell 30 = .ok (.aload_n 0, 1) := by decide +kernel
theorem dX11_tell_31 : decode cX11_tell 31 = .ok (.getfield 73, 3) := by decide +kernel
theorem dX11_tell_34 : decode cX11_tell 34 = .ok (.iload_n 1, 1) := by decide +kernel
theorem dX11_tell_35 : decode cX11_tell 35 = .ok (.iload_n 2, 1) := by decide +kernel
theorem dX11_tell_36 : decode cX11_tell 36 = .ok (.iload_n 3, 1) := by decide +kernel
theorem dX11_tell_37 : decode cX11_tell 37 = .ok (.invokevirtual 282, 3) := by decide +kernel
theorem dX11_tell_40 : decode cX11_tell 40 = .ok (.ireturn, 1) := by decide +kernel
abbrev mX11_tell : MI := (RX11, yX11_tell, cX11_tell, 4, some .boolean)
theorem cvX11_tell : CV mX11_tell 3 := ⟨⟨mw (i := 1069) (by decide +kernel), mw (i := 1) (by decide +kernel), ⟨by decide +kernel, by decide +kernel, by decide +kernel⟩, by decide⟩, mw (i := 1067) (by decide +kernel), mw (i := 1068) (by decide +kernel)⟩
def FX11_tell (a0 : Nat) (p1 : Int32) (p2 : Int32) (p3 : Int32) : PP Bool := bd (FX7_hasPlace (rf a0 1) p1) (fun x1 => if ((b2i x1)) = 0 then zb (0 : Int32) else if p2 < 0 then zb (0 : Int32) else if (12 : Int32) < p2 then zb (0 : Int32) else bd (FX11_isWeather p3) (fun x2 => if ((b2i x2)) = 0 then zb (0 : Int32) else bd (FX6_add (rf a0 9) p1 p2 p3) (fun x3 => zb ((b2i x3)))))
set_option maxHeartbeats 4000000 in
set_option maxRecDepth 100000 in
theorem SX11_tell {l : Launch} {K : KK} {n : Nat} {hn : 270 ≤ n} (a0 : Nat) (p1 : Int32) (p2 : Int32) (p3 : Int32) (h0 : ob a0 10) : CT l K n 1 mX11_tell [.ref (K.2.1 + a0), .int p1, .int p2, .int p3] enZ (FX11_tell a0 p1 p2 p3) := by
  refine CT.of2 (lv2 := [(0, .ref (K.2.1 + a0)), (1, .int p1), (2, .int p2), (3, .int p3)]) (by decide) rfl hn (Nat.le_of_ble_eq_true rfl) rfl (rp_id ?_)
  unfold FX11_tell
  refine rp_aload_n 0 dX11_tell_0 rfl ?_
  refine rp_getR fi_X11_19 h0 rfl dX11_tell_1 ?_
  refine rp_iload_n 1 dX11_tell_4 rfl ?_
  refine rp_callVz [.int p1] (SX7_hasPlace (hn := hn) (rf a0 1) p1 (tX11_1 h0)) cvX7_hasPlace (mw (i := 804) (by decide +kernel)) (by omega) (tX11_1 h0) (by decide) rfl rfl rfl (Nat.le_of_ble_eq_true rfl) dX11_tell_5 (fun x1 => ?_)
  refine rp_if_eq 28 dX11_tell_8 (by decide) ?_ ?_
  · refine rp_iconst (0 : Int32) dX11_tell_28 (by decide) ?_
    exact rp_zretb rfl dX11_tell_29
  · refine rp_iload_n 2 dX11_tell_11 rfl ?_
    refine rp_if_lt 28 dX11_tell_12 (by decide) ?_ ?_
    · refine rp_iconst (0 : Int32) dX11_tell_28 (by decide) ?_
      exact rp_zretb rfl dX11_tell_29
    · refine rp_iload_n 2 dX11_tell_15 rfl ?_
      refine rp_bipush (12 : Int32) dX11_tell_16 (by decide) ?_
      refine rp_icmp_gt 28 dX11_tell_18 (by decide) ?_ ?_
      · refine rp_iconst (0 : Int32) dX11_tell_28 (by decide) ?_
        exact rp_zretb rfl dX11_tell_29
      · refine rp_iload_n 3 dX11_tell_21 rfl ?_
        refine rp_callSz [.int p3] (SX11_isWeather (hn := hn) p3) csX11_isWeather (mw (i := 1014) (by decide +kernel)) (by omega) rfl rfl (Nat.le_of_ble_eq_true rfl) dX11_tell_22 (fun x2 => ?_)
        refine rp_if_ne 30 dX11_tell_25 (by decide) ?_ ?_
        · refine rp_aload_n 0 dX11_tell_30 rfl ?_
          refine rp_getR fi_X11_73 h0 rfl dX11_tell_31 ?_
          refine rp_iload_n 1 dX11_tell_34 rfl ?_
          refine rp_iload_n 2 dX11_tell_35 rfl ?_
          refine rp_iload_n 3 dX11_tell_36 rfl ?_
          refine rp_callVz [.int p1, .int p2, .int p3] (SX6_add (hn := hn) (rf a0 9) p1 p2 p3 (tX11_9 h0)) cvX6_add (mw (i := 1070) (by decide +kernel)) (by omega) (tX11_9 h0) (by decide) rfl rfl rfl (Nat.le_of_ble_eq_true rfl) dX11_tell_37 (fun x3 => ?_)
          exact rp_zretb rfl dX11_tell_40
        · refine rp_iconst (0 : Int32) dX11_tell_28 (by decide) ?_
          exact rp_zretb rfl dX11_tell_29

theorem dX11_pairs_0 : decode cX11_pairs 0 = .ok (.iload_n 1, 1) := by decide +kernel
theorem dX11_pairs_1 : decode cX11_pairs 1 = .ok (.ifCond .lt 8, 3) := by decide +kernel
theorem dX11_pairs_4 : decode cX11_pairs 4 = .ok (.iload_n 1, 1) := by decide +kernel
theorem dX11_pairs_5 : decode cX11_pairs 5 = .ok (.iconst 2, 1) := by decide +kernel
theorem dX11_pairs_6 : decode cX11_pairs 6 = .ok (.if_icmp .le 5, 3) := by decide +kernel
theorem dX11_pairs_9 : decode cX11_pairs 9 = .ok (.iconst (-1), 1) := by decide +kernel
theorem dX11_pairs_10 : decode cX11_pairs 10 = .ok (.ireturn, 1) := by decide +kernel
theorem dX11_pairs_11 : decode cX11_pairs 11 = .ok (.aload_n 0, 1) := by decide +kernel
theorem dX11_pairs_12 : decode cX11_pairs 12 = .ok (.getfield 73, 3) := by decide +kernel
theorem dX11_pairs_15 : decode cX11_pairs 15 = .ok (.aload_n 0, 1) := by decide +kernel
theorem dX11_pairs_16 : decode cX11_pairs 16 = .ok (.getfield 47, 3) := by decide +kernel
theorem dX11_pairs_19 : decode cX11_pairs 19 = .ok (.iconst 0, 1) := by decide +kernel
theorem dX11_pairs_20 : decode cX11_pairs 20 = .ok (.invokevirtual 285, 3) := by decide +kernel
theorem dX11_pairs_23 : decode cX11_pairs 23 = .ok (.iload_n 1, 1) := by decide +kernel
theorem dX11_pairs_24 : decode cX11_pairs 24 = .ok (.ifCond .ne 11, 3) := by decide +kernel
theorem dX11_pairs_27 : decode cX11_pairs 27 = .ok (.aload_n 0, 1) := by decide +kernel
theorem dX11_pairs_28 : decode cX11_pairs 28 = .ok (.getfield 73, 3) := by decide +kernel
theorem dX11_pairs_31 : decode cX11_pairs 31 = .ok (.getfield 289, 3) := by decide +kernel
theorem dX11_pairs_34 : decode cX11_pairs 34 = .ok (.ireturn, 1) := by decide +kernel
theorem dX11_pairs_35 : decode cX11_pairs 35 = .ok (.iload_n 1, 1) := by decide +kernel
theorem dX11_pairs_36 : decode cX11_pairs 36 = .ok (.iconst 1, 1) := by decide +kernel
theorem dX11_pairs_37 : decode cX11_pairs 37 = .ok (.if_icmp .ne 13, 3) := by decide +kernel
theorem dX11_pairs_40 : decode cX11_pairs 40 = .ok (.aload_n 0, 1) := by decide +kernel
theorem dX11_pairs_41 : decode cX11_pairs 41 = .ok (.getfield 73, 3) := by decide +kernel
theorem dX11_pairs_44 : decode cX11_pairs 44 = .ok (.getfield 292, 3) := by decide +kernel
theorem dX11_pairs_47 : decode cX11_pairs 47 = .ok (.goto 10, 3) := by decide +kernel
theorem dX11_pairs_50 : decode cX11_pairs 50 = .ok (.aload_n 0, 1) := by decide +kernel
theorem dX11_pairs_51 : decode cX11_pairs 51 = .ok (.getfield 73, 3) := by decide +kernel
theorem dX11_pairs_54 : decode cX11_pairs 54 = .ok (.getfield 295, 3) := by decide +kernel
theorem dX11_pairs_57 : decode cX11_pairs 57 = .ok (.ireturn, 1) := by decide +kernel
abbrev mX11_pairs : MI := (RX11, yX11_pairs, cX11_pairs, 2, some .int)
theorem cvX11_pairs : CV mX11_pairs 1 := ⟨⟨mw (i := 1077) (by decide +kernel), mw (i := 1) (by decide +kernel), ⟨by decide +kernel, by decide +kernel, by decide +kernel⟩, by decide⟩, mw (i := 1075) (by decide +kernel), mw (i := 1076) (by decide +kernel)⟩
def FX11_pairs (a0 : Nat) (p1 : Int32) : PP Int32 := if p1 < 0 then pu (-1 : Int32) else if p1 ≤ (2 : Int32) then bd (FX6_findPairs (rf a0 9) (rf a0 5) (0 : Int32)) (fun (_ : Unit) => if p1 = 0 then bd (gI (rf a0 9) 4) (fun x5 => pu x5) else bd (if p1 = (1 : Int32) then bd (gI (rf a0 9) 5) (fun x3 => pu x3) else bd (gI (rf a0 9) 6) (fun x2 => pu x2) : PP (Int32)) (fun (v4 : Int32) => pu v4)) else pu (-1 : Int32)
set_option maxHeartbeats 4000000 in
set_option maxRecDepth 100000 in
theorem SX11_pairs {l : Launch} {K : KK} {n : Nat} {hn : 270 ≤ n} (a0 : Nat) (p1 : Int32) (h0 : ob a0 10) : CT l K n 6 mX11_pairs [.ref (K.2.1 + a0), .int p1] enI (FX11_pairs a0 p1) := by
  refine CT.of2 (lv2 := [(0, .ref (K.2.1 + a0)), (1, .int p1)]) (by decide) rfl hn (Nat.le_of_ble_eq_true rfl) rfl (rp_id ?_)
  unfold FX11_pairs
  refine rp_iload_n 1 dX11_pairs_0 rfl ?_
  refine rp_if_lt 9 dX11_pairs_1 (by decide) ?_ ?_
  · refine rp_iconst (-1 : Int32) dX11_pairs_9 (by decide) ?_
    exact rp_pu (rp_iret rfl dX11_pairs_10)
  · refine rp_iload_n 1 dX11_pairs_4 rfl ?_
    refine rp_iconst (2 : Int32) dX11_pairs_5 (by decide) ?_
    refine rp_icmp_le 11 dX11_pairs_6 (by decide) ?_ ?_
    · refine rp_aload_n 0 dX11_pairs_11 rfl ?_
      refine rp_getR fi_X11_73 h0 rfl dX11_pairs_12 ?_
      refine rp_aload_n 0 dX11_pairs_15 rfl ?_
      refine rp_getR fi_X11_47 h0 rfl dX11_pairs_16 ?_
      refine rp_iconst (0 : Int32) dX11_pairs_19 (by decide) ?_
      refine rp_callVv [.ref (K.2.1 + (rf a0 5)), .int (0 : Int32)] (SX6_findPairs (hn := hn) (rf a0 9) (rf a0 5) (0 : Int32) (tX11_9 h0) (tX11_5 h0)) cvX6_findPairs (mw (i := 1078) (by decide +kernel)) (by omega) (tX11_9 h0) (by decide) rfl rfl rfl (Nat.le_of_ble_eq_true rfl) dX11_pairs_20 (fun x1 => ?_)
      refine rp_iload_n 1 dX11_pairs_23 rfl ?_
      refine rp_if_ne 35 dX11_pairs_24 (by decide) ?_ ?_
      · refine rp_iload_n 1 dX11_pairs_35 rfl ?_
        refine rp_iconst (1 : Int32) dX11_pairs_36 (by decide) ?_
        refine rp_as ?_
        refine rp_join 57 (fun (v4 : Int32) => []) (fun v4 => [.int v4]) (fun v4 => ?_) (fun hJ57 => ?_)
        · exact rp_pu (rp_iret rfl dX11_pairs_57)
        refine rp_icmp_ne 50 dX11_pairs_37 (by decide) ?_ ?_
        · refine rp_aload_n 0 dX11_pairs_50 rfl ?_
          refine rp_getR fi_X11_73 h0 rfl dX11_pairs_51 ?_
          refine rp_getI fi_X11_295 (tX11_9 h0) rfl dX11_pairs_54 (fun x2 => ?_)
          exact rp_sub [] rfl (rp_pu (hJ57 x2))
        · refine rp_aload_n 0 dX11_pairs_40 rfl ?_
          refine rp_getR fi_X11_73 h0 rfl dX11_pairs_41 ?_
          refine rp_getI fi_X11_292 (tX11_9 h0) rfl dX11_pairs_44 (fun x3 => ?_)
          refine rp_goto 57 dX11_pairs_47 (by decide) ?_
          exact rp_sub [] rfl (rp_pu (hJ57 x3))
      · refine rp_aload_n 0 dX11_pairs_27 rfl ?_
        refine rp_getR fi_X11_73 h0 rfl dX11_pairs_28 ?_
        refine rp_getI fi_X11_289 (tX11_9 h0) rfl dX11_pairs_31 (fun x5 => ?_)
        exact rp_pu (rp_iret rfl dX11_pairs_34)
    · refine rp_iconst (-1 : Int32) dX11_pairs_9 (by decide) ?_
      exact rp_pu (rp_iret rfl dX11_pairs_10)

theorem dX11_look_0 : decode cX11_look 0 = .ok (.iload_n 1, 1) := by decide +kernel
theorem dX11_look_1 : decode cX11_look 1 = .ok (.ifCond .lt 9, 3) := by decide +kernel
theorem dX11_look_4 : decode cX11_look 4 = .ok (.iload_n 1, 1) := by decide +kernel
theorem dX11_look_5 : decode cX11_look 5 = .ok (.bipush 12, 2) := by decide +kernel
theorem dX11_look_7 : decode cX11_look 7 = .ok (.if_icmp .le 5, 3) := by decide +kernel
theorem dX11_look_10 : decode cX11_look 10 = .ok (.iconst (-1), 1) := by decide +kernel
theorem dX11_look_11 : decode cX11_look 11 = .ok (.ireturn, 1) := by decide +kernel
theorem dX11_look_12 : decode cX11_look 12 = .ok (.aload_n 0, 1) := by decide +kernel
theorem dX11_look_13 : decode cX11_look 13 = .ok (.getfield 73, 3) := by decide +kernel
theorem dX11_look_16 : decode cX11_look 16 = .ok (.aload_n 0, 1) := by decide +kernel
theorem dX11_look_17 : decode cX11_look 17 = .ok (.getfield 47, 3) := by decide +kernel
theorem dX11_look_20 : decode cX11_look 20 = .ok (.iload_n 1, 1) := by decide +kernel
theorem dX11_look_21 : decode cX11_look 21 = .ok (.invokevirtual 285, 3) := by decide +kernel
theorem dX11_look_24 : decode cX11_look 24 = .ok (.aload_n 0, 1) := by decide +kernel
theorem dX11_look_25 : decode cX11_look 25 = .ok (.getfield 73, 3) := by decide +kernel
theorem dX11_look_28 : decode cX11_look 28 = .ok (.invokevirtual 298, 3) := by decide +kernel
theorem dX11_look_31 : decode cX11_look 31 = .ok (.ireturn, 1) := by decide +kernel
abbrev mX11_look : MI := (RX11, yX11_look, cX11_look, 2, some .int)
theorem cvX11_look : CV mX11_look 1 := ⟨⟨mw (i := 1104) (by decide +kernel), mw (i := 1) (by decide +kernel), ⟨by decide +kernel, by decide +kernel, by decide +kernel⟩, by decide⟩, mw (i := 1102) (by decide +kernel), mw (i := 1103) (by decide +kernel)⟩
def FX11_look (a0 : Nat) (p1 : Int32) : PP Int32 := if p1 < 0 then pu (-1 : Int32) else if p1 ≤ (12 : Int32) then bd (FX6_findPairs (rf a0 9) (rf a0 5) p1) (fun (_ : Unit) => bd (FX6_bestPlace (rf a0 9)) (fun x2 => pu x2)) else pu (-1 : Int32)
set_option maxHeartbeats 4000000 in
set_option maxRecDepth 100000 in
theorem SX11_look {l : Launch} {K : KK} {n : Nat} {hn : 270 ≤ n} (a0 : Nat) (p1 : Int32) (h0 : ob a0 10) : CT l K n 6 mX11_look [.ref (K.2.1 + a0), .int p1] enI (FX11_look a0 p1) := by
  refine CT.of2 (lv2 := [(0, .ref (K.2.1 + a0)), (1, .int p1)]) (by decide) rfl hn (Nat.le_of_ble_eq_true rfl) rfl (rp_id ?_)
  unfold FX11_look
  refine rp_iload_n 1 dX11_look_0 rfl ?_
  refine rp_if_lt 10 dX11_look_1 (by decide) ?_ ?_
  · refine rp_iconst (-1 : Int32) dX11_look_10 (by decide) ?_
    exact rp_pu (rp_iret rfl dX11_look_11)
  · refine rp_iload_n 1 dX11_look_4 rfl ?_
    refine rp_bipush (12 : Int32) dX11_look_5 (by decide) ?_
    refine rp_icmp_le 12 dX11_look_7 (by decide) ?_ ?_
    · refine rp_aload_n 0 dX11_look_12 rfl ?_
      refine rp_getR fi_X11_73 h0 rfl dX11_look_13 ?_
      refine rp_aload_n 0 dX11_look_16 rfl ?_
      refine rp_getR fi_X11_47 h0 rfl dX11_look_17 ?_
      refine rp_iload_n 1 dX11_look_20 rfl ?_
      refine rp_callVv [.ref (K.2.1 + (rf a0 5)), .int p1] (SX6_findPairs (hn := hn) (rf a0 9) (rf a0 5) p1 (tX11_9 h0) (tX11_5 h0)) cvX6_findPairs (mw (i := 1078) (by decide +kernel)) (by omega) (tX11_9 h0) (by decide) rfl rfl rfl (Nat.le_of_ble_eq_true rfl) dX11_look_21 (fun x1 => ?_)
      refine rp_aload_n 0 dX11_look_24 rfl ?_
      refine rp_getR fi_X11_73 h0 rfl dX11_look_25 ?_
      refine rp_callVi [] (SX6_bestPlace (hn := hn) (rf a0 9) (tX11_9 h0)) cvX6_bestPlace (mw (i := 1105) (by decide +kernel)) (by omega) (tX11_9 h0) (by decide) rfl rfl rfl (Nat.le_of_ble_eq_true rfl) dX11_look_28 (fun x2 => ?_)
      exact rp_pu (rp_iret rfl dX11_look_31)
    · refine rp_iconst (-1 : Int32) dX11_look_10 (by decide) ?_
      exact rp_pu (rp_iret rfl dX11_look_11)

theorem dX11_crossings_0 : decode cX11_crossings 0 = .ok (.iconst 0, 1) := by decide +kernel
theorem dX11_crossings_1 : decode cX11_crossings 1 = .ok (.istore_n 2, 1) := by decide +kernel
theorem dX11_crossings_2 : decode cX11_crossings 2 = .ok (.iconst 0, 1) := by decide +kernel
theorem dX11_crossings_3 : decode cX11_crossings 3 = .ok (.istore_n 3, 1) := by decide +kernel
theorem dX11_crossings_4 : decode cX11_crossings 4 = .ok (.iload_n 3, 1) := by decide +kernel
theorem dX11_crossings_5 : decode cX11_crossings 5 = .ok (.aload_n 0, 1) := by decide +kernel
theorem dX11_crossings_6 : decode cX11_crossings 6 = .ok (.getfield 19, 3) := by decide +kernel
theorem dX11_crossings_9 : decode cX11_crossings 9 = .ok (.getfield 183, 3) := by decide +kernel
theorem dX11_crossings_12 : decode cX11_crossings 12 = .ok (.if_icmp .ge 80, 3) := by decide +kernel
theorem dX11_crossings_15 : decode cX11_crossings 15 = .ok (.iload_n 3, 1) := by decide +kernel
theorem dX11_crossings_16 : decode cX11_crossings 16 = .ok (.iconst 1, 1) := by decide +kernel
theorem dX11_crossings_17 : decode cX11_crossings 17 = .ok (.iadd, 1) := by decide +kernel
theorem dX11_crossings_18 : decode cX11_crossings 18 = .ok (.istore 4, 2) := by decide +kernel
theorem dX11_crossings_20 : decode cX11_crossings 20 = .ok (.iload 4, 2) := by decide +kernel
theorem dX11_crossings_22 : decode cX11_crossings 22 = .ok (.aload_n 0, 1) := by decide +kernel
theorem dX11_crossings_23 : decode cX11_crossings 23 = .ok (.getfield 19, 3) := by decide +kernel
theorem dX11_crossings_26 : decode cX11_crossings 26 = .ok (.getfield 183, 3) := by decide +kernel
theorem dX11_crossings_29 : decode cX11_crossings 29 = .ok (.if_icmp .ge 57, 3) := by decide +kernel
theorem dX11_crossings_32 : decode cX11_crossings 32 = .ok (.aload_n 0, 1) := by decide +kernel
theorem dX11_crossings_33 : decode cX11_crossings 33 = .ok (.getfield 19, 3) := by decide +kernel
theorem dX11_crossings_36 : decode cX11_crossings 36 = .ok (.getfield 146, 3) := by decide +kernel
theorem dX11_crossings_39 : decode cX11_crossings 39 = .ok (.iload_n 3, 1) := by decide +kernel
theorem dX11_crossings_40 : decode cX11_crossings 40 = .ok (.iaload, 1) := by decide +kernel
theorem dX11_crossings_41 : decode cX11_crossings 41 = .ok (.iload 4, 2) := by decide +kernel
theorem dX11_crossings_43 : decode cX11_crossings 43 = .ok (.ishr, 1) := by decide +kernel
theorem dX11_crossings_44 : decode cX11_crossings 44 = .ok (.iconst 1, 1) := by decide +kernel
theorem dX11_crossings_45 : decode cX11_crossings 45 = .ok (.iand, 1) := by decide +kernel
theorem dX11_crossings_46 : decode cX11_crossings 46 = .ok (.iconst 1, 1) := by decide +kernel
theorem dX11_crossings_47 : decode cX11_crossings 47 = .ok (.if_icmp .ne 33, 3) := by decide +kernel
theorem dX11_crossings_50 : decode cX11_crossings 50 = .ok (.aload_n 0, 1) := by decide +kernel
theorem dX11_crossings_51 : decode cX11_crossings 51 = .ok (.getfield 47, 3) := by decide +kernel
theorem dX11_crossings_54 : decode cX11_crossings 54 = .ok (.iload_n 3, 1) := by decide +kernel
theorem dX11_crossings_55 : decode cX11_crossings 55 = .ok (.iload 4, 2) := by decide +kernel
theorem dX11_crossings_57 : decode cX11_crossings 57 = .ok (.invokevirtual 304, 3) := by decide +kernel
theorem dX11_crossings_60 : decode cX11_crossings 60 = .ok (.ifCond .eq 20, 3) := by decide +kernel
theorem dX11_crossings_63 : decode cX11_crossings 63 = .ok (.aload_n 0, 1) := by decide +kernel
theorem dX11_crossings_64 : decode cX11_crossings 64 = .ok (.getfield 47, 3) := by decide +kernel
theorem dX11_crossings_67 : decode cX11_crossings 67 = .ok (.iload_n 3, 1) := by decide +kernel
theorem dX11_crossings_68 : decode cX11_crossings 68 = .ok (.iload 4, 2) := by decide +kernel
theorem dX11_crossings_70 : decode cX11_crossings 70 = .ok (.invokevirtual 308, 3) := by decide +kernel
theorem dX11_crossings_73 : decode cX11_crossings 73 = .ok (.iload_n 1, 1) := by decide +kernel
theorem dX11_crossings_74 : decode cX11_crossings 74 = .ok (.if_icmp .ne 6, 3) := by decide +kernel
theorem dX11_crossings_77 : decode cX11_crossings 77 = .ok (.iinc 2 1, 3) := by decide +kernel
theorem dX11_crossings_80 : decode cX11_crossings 80 = .ok (.iinc 4 1, 3) := by decide +kernel
theorem dX11_crossings_83 : decode cX11_crossings 83 = .ok (.goto (-63), 3) := by decide +kernel
theorem dX11_crossings_86 : decode cX11_crossings 86 = .ok (.iinc 3 1, 3) := by decide +kernel
theorem dX11_crossings_89 : decode cX11_crossings 89 = .ok (.goto (-85), 3) := by decide +kernel
theorem dX11_crossings_92 : decode cX11_crossings 92 = .ok (.iload_n 2, 1) := by decide +kernel
theorem dX11_crossings_93 : decode cX11_crossings 93 = .ok (.ireturn, 1) := by decide +kernel
abbrev mX11_crossings : MI := (RX11, yX11_crossings, cX11_crossings, 5, some .int)
theorem cvX11_crossings : CV mX11_crossings 1 := ⟨⟨mw (i := 1116) (by decide +kernel), mw (i := 1) (by decide +kernel), ⟨by decide +kernel, by decide +kernel, by decide +kernel⟩, by decide⟩, mw (i := 1115) (by decide +kernel), mp2 (i := 31) 12 (by decide +kernel)⟩
def FX11_crossings (a0 : Nat) (p1 : Int32) : PP Int32 := bd (it (fun (s1 : Int32 × Int32) => (bd (gI (rf a0 1) 9) (fun x2 => if x2 ≤ s1.2 then pu (Sum.inr s1.1) else lt (s1.2 + (1 : Int32)) (fun y3 => bd (it (fun (s4 : Int32 × Int32) => (bd (gI (rf a0 1) 9) (fun x5 => if x5 ≤ s4.2 then pu (Sum.inr s4.1) else bd (aI (rf (rf a0 1) 4) 5 s1.2) (fun x6 => bd (if ((x6 >>> (s4.2 &&& 31)) &&& (1 : Int32)) = (1 : Int32) then bd (FX4_bothWet (rf a0 5) s1.2 s4.2) (fun x7 => if ((b2i x7)) = 0 then pu s4.1 else bd (FX4_isRainbow (rf a0 5) s1.2 s4.2) (fun x8 => if ((b2i x8)) = p1 then lt (s4.1 + (1 : Int32)) (fun y9 => pu y9) else pu s4.1)) else pu s4.1 : PP (Int32)) (fun (v10 : Int32) => lt (s4.2 + (1 : Int32)) (fun y11 => pu (Sum.inl (v10, y11)))))) : PP ((Int32 × Int32) ⊕ (Int32)))) FU (s1.1, y3)) (fun (v12 : Int32) => lt (s1.2 + (1 : Int32)) (fun y13 => pu (Sum.inl (v12, y13)))))) : PP ((Int32 × Int32) ⊕ (Int32)))) FU ((0 : Int32), (0 : Int32))) (fun (v14 : Int32) => pu v14)
set_option maxHeartbeats 4000000 in
set_option maxRecDepth 100000 in
theorem SX11_crossings {l : Launch} {K : KK} {n : Nat} {hn : 270 ≤ n} (a0 : Nat) (p1 : Int32) (h0 : ob a0 10) : CT l K n 2 mX11_crossings [.ref (K.2.1 + a0), .int p1] enI (FX11_crossings a0 p1) := by
  refine CT.of2 (lv2 := [(0, .ref (K.2.1 + a0)), (1, .int p1)]) (by decide) rfl hn (Nat.le_of_ble_eq_true rfl) rfl (rp_id ?_)
  unfold FX11_crossings
  refine rp_iconst (0 : Int32) dX11_crossings_0 (by decide) ?_
  refine rp_istore_n [(2, .int (0 : Int32)), (0, .ref (K.2.1 + a0)), (1, .int p1)] dX11_crossings_1 (by decide) rfl ?_
  refine rp_iconst (0 : Int32) dX11_crossings_2 (by decide) ?_
  refine rp_istore_n [(3, .int (0 : Int32)), (2, .int (0 : Int32)), (0, .ref (K.2.1 + a0)), (1, .int p1)] dX11_crossings_3 (by decide) rfl ?_
  refine rp_as ?_
  refine rp_join 92 (fun v14 => [(2, .int v14)]) (fun _ => []) (fun v14 => ?_) (fun hX4_0 => ?_)
  · refine rp_iload_n 0 dX11_crossings_92 rfl ?_
    exact rp_pu (rp_iret rfl dX11_crossings_93)
  refine rp_sub [2, 3, 1, 0] rfl (rp_it (fun (s1 : Int32 × Int32) => [(0, .ref (K.2.1 + a0)), (1, .int p1), (2, .int s1.1), (3, .int s1.2)]) (fun N4 ih4 s1 => ?_) FU ((0 : Int32), (0 : Int32)))
  refine rp_iload_n 3 dX11_crossings_4 rfl ?_
  refine rp_aload_n 0 dX11_crossings_5 rfl ?_
  refine rp_getR fi_X11_19 h0 rfl dX11_crossings_6 ?_
  refine rp_getI fi_X11_183 (tX11_1 h0) rfl dX11_crossings_9 (fun x2 => ?_)
  refine rp_icmp_ge 92 dX11_crossings_12 (by decide) ?_ ?_
  · exact rp_sub [2] rfl (rp_pu (hX4_0 s1.1))
  · refine rp_iload_n 3 dX11_crossings_15 rfl ?_
    refine rp_iconst (1 : Int32) dX11_crossings_16 (by decide) ?_
    refine rp_iadd dX11_crossings_17 ?_
    refine rp_lti (fun y3 => ?_)
    refine rp_istore [(4, .int y3), (0, .ref (K.2.1 + a0)), (1, .int p1), (2, .int s1.1), (3, .int s1.2)] dX11_crossings_18 (by decide) rfl ?_
    refine rp_as ?_
    refine rp_join 86 (fun v12 => [(0, .ref (K.2.1 + a0)), (1, .int p1), (2, .int v12), (3, .int s1.2)]) (fun _ => []) (fun v12 => ?_) (fun hX20_0 => ?_)
    · refine rp_iinc (fun y13 => [(3, .int y13), (0, .ref (K.2.1 + a0)), (1, .int p1), (2, .int v12)]) 3 dX11_crossings_86 rfl (by rfl) (by decide) (fun y13 => rfl) (fun y13 => ?_)
      refine rp_goto 4 dX11_crossings_89 (by decide) ?_
      exact rp_sub [1, 2, 3, 0] rfl (ih4 (v12, y13))
    refine rp_sub [1, 2, 3, 4, 0] rfl (rp_it (fun (s4 : Int32 × Int32) => [(0, .ref (K.2.1 + a0)), (1, .int p1), (2, .int s4.1), (3, .int s1.2), (4, .int s4.2)]) (fun N20 ih20 s4 => ?_) FU (s1.1, y3))
    refine rp_iload 4 dX11_crossings_20 rfl ?_
    refine rp_aload_n 0 dX11_crossings_22 rfl ?_
    refine rp_getR fi_X11_19 h0 rfl dX11_crossings_23 ?_
    refine rp_getI fi_X11_183 (tX11_1 h0) rfl dX11_crossings_26 (fun x5 => ?_)
    refine rp_icmp_ge 86 dX11_crossings_29 (by decide) ?_ ?_
    · exact rp_sub [0, 1, 2, 3] rfl (rp_pu (hX20_0 s4.1))
    · refine rp_aload_n 0 dX11_crossings_32 rfl ?_
      refine rp_getR fi_X11_19 h0 rfl dX11_crossings_33 ?_
      refine rp_getR fi_X11_146 (tX11_1 h0) rfl dX11_crossings_36 ?_
      refine rp_iload_n 3 dX11_crossings_39 rfl ?_
      refine rp_iald (tX7_4 (tX11_1 h0)) dX11_crossings_40 (fun x6 => ?_)
      refine rp_iload 4 dX11_crossings_41 rfl ?_
      refine rp_ishr dX11_crossings_43 ?_
      refine rp_iconst (1 : Int32) dX11_crossings_44 (by decide) ?_
      refine rp_iand dX11_crossings_45 ?_
      refine rp_iconst (1 : Int32) dX11_crossings_46 (by decide) ?_
      refine rp_as ?_
      refine rp_join 80 (fun (v10 : Int32) => [(0, .ref (K.2.1 + a0)), (1, .int p1), (2, .int v10), (3, .int s1.2), (4, .int s4.2)]) (fun v10 => []) (fun v10 => ?_) (fun hJ80 => ?_)
      · refine rp_iinc (fun y11 => [(4, .int y11), (0, .ref (K.2.1 + a0)), (1, .int p1), (2, .int v10), (3, .int s1.2)]) 4 dX11_crossings_80 rfl (by rfl) (by decide) (fun y11 => rfl) (fun y11 => ?_)
        refine rp_goto 20 dX11_crossings_83 (by decide) ?_
        exact rp_sub [1, 2, 3, 4, 0] rfl (ih20 (v10, y11))
      refine rp_icmp_ne 80 dX11_crossings_47 (by decide) ?_ ?_
      · exact rp_sub [0, 1, 2, 3, 4] rfl (rp_pu (hJ80 s4.1))
      · refine rp_aload_n 0 dX11_crossings_50 rfl ?_
        refine rp_getR fi_X11_47 h0 rfl dX11_crossings_51 ?_
        refine rp_iload_n 3 dX11_crossings_54 rfl ?_
        refine rp_iload 4 dX11_crossings_55 rfl ?_
        refine rp_callVz [.int s1.2, .int s4.2] (SX4_bothWet (hn := hn) (rf a0 5) s1.2 s4.2 (tX11_5 h0)) cvX4_bothWet (mw (i := 1117) (by decide +kernel)) (by omega) (tX11_5 h0) (by decide) rfl rfl rfl (Nat.le_of_ble_eq_true rfl) dX11_crossings_57 (fun x7 => ?_)
        refine rp_if_eq 80 dX11_crossings_60 (by decide) ?_ ?_
        · exact rp_sub [0, 1, 2, 3, 4] rfl (rp_pu (hJ80 s4.1))
        · refine rp_aload_n 0 dX11_crossings_63 rfl ?_
          refine rp_getR fi_X11_47 h0 rfl dX11_crossings_64 ?_
          refine rp_iload_n 3 dX11_crossings_67 rfl ?_
          refine rp_iload 4 dX11_crossings_68 rfl ?_
          refine rp_callVz [.int s1.2, .int s4.2] (SX4_isRainbow (hn := hn) (rf a0 5) s1.2 s4.2 (tX11_5 h0)) cvX4_isRainbow (mw (i := 1125) (by decide +kernel)) (by omega) (tX11_5 h0) (by decide) rfl rfl rfl (Nat.le_of_ble_eq_true rfl) dX11_crossings_70 (fun x8 => ?_)
          refine rp_iload_n 1 dX11_crossings_73 rfl ?_
          refine rp_icmp_ne 80 dX11_crossings_74 (by decide) ?_ ?_
          · exact rp_sub [0, 1, 2, 3, 4] rfl (rp_pu (hJ80 s4.1))
          · refine rp_iinc (fun y9 => [(2, .int y9), (0, .ref (K.2.1 + a0)), (1, .int p1), (3, .int s1.2), (4, .int s4.2)]) 2 dX11_crossings_77 rfl (by rfl) (by decide) (fun y9 => rfl) (fun y9 => ?_)
            exact rp_sub [1, 2, 0, 3, 4] rfl (rp_pu (hJ80 y9))

theorem dX11_rainbows_0 : decode cX11_rainbows 0 = .ok (.aload_n 0, 1) := by decide +kernel
theorem dX11_rainbows_1 : decode cX11_rainbows 1 = .ok (.iconst 1, 1) := by decide +kernel
theorem dX11_rainbows_2 : decode cX11_rainbows 2 = .ok (.invokevirtual 301, 3) := by decide +kernel
theorem dX11_rainbows_5 : decode cX11_rainbows 5 = .ok (.ireturn, 1) := by decide +kernel
abbrev mX11_rainbows : MI := (RX11, yX11_rainbows, cX11_rainbows, 1, some .int)
theorem cvX11_rainbows : CV mX11_rainbows 0 := ⟨⟨mw (i := 1112) (by decide +kernel), mw (i := 1) (by decide +kernel), ⟨by decide +kernel, by decide +kernel, by decide +kernel⟩, by decide⟩, mw (i := 1110) (by decide +kernel), mw (i := 1111) (by decide +kernel)⟩
def FX11_rainbows (a0 : Nat) : PP Int32 := bd (FX11_crossings a0 (1 : Int32)) (fun x1 => pu x1)
set_option maxHeartbeats 4000000 in
set_option maxRecDepth 100000 in
theorem SX11_rainbows {l : Launch} {K : KK} {n : Nat} {hn : 270 ≤ n} (a0 : Nat) (h0 : ob a0 10) : CT l K n 3 mX11_rainbows [.ref (K.2.1 + a0)] enI (FX11_rainbows a0) := by
  refine CT.of2 (lv2 := [(0, .ref (K.2.1 + a0))]) (by decide) rfl hn (Nat.le_of_ble_eq_true rfl) rfl (rp_id ?_)
  unfold FX11_rainbows
  refine rp_aload_n 0 dX11_rainbows_0 rfl ?_
  refine rp_iconst (1 : Int32) dX11_rainbows_1 (by decide) ?_
  refine rp_callVi [.int (1 : Int32)] (SX11_crossings (hn := hn) a0 (1 : Int32) h0) cvX11_crossings (mw (i := 1113) (by decide +kernel)) (by omega) h0 (by decide) rfl rfl rfl (Nat.le_of_ble_eq_true rfl) dX11_rainbows_2 (fun x1 => ?_)
  exact rp_pu (rp_iret rfl dX11_rainbows_5)

theorem dX11_quarrels_0 : decode cX11_quarrels 0 = .ok (.aload_n 0, 1) := by decide +kernel
theorem dX11_quarrels_1 : decode cX11_quarrels 1 = .ok (.iconst 0, 1) := by decide +kernel
theorem dX11_quarrels_2 : decode cX11_quarrels 2 = .ok (.invokevirtual 301, 3) := by decide +kernel
theorem dX11_quarrels_5 : decode cX11_quarrels 5 = .ok (.ireturn, 1) := by decide +kernel
abbrev mX11_quarrels : MI := (RX11, yX11_quarrels, cX11_quarrels, 1, some .int)
theorem cvX11_quarrels : CV mX11_quarrels 0 := ⟨⟨mw (i := 1132) (by decide +kernel), mw (i := 1) (by decide +kernel), ⟨by decide +kernel, by decide +kernel, by decide +kernel⟩, by decide⟩, mw (i := 1130) (by decide +kernel), mw (i := 1131) (by decide +kernel)⟩
def FX11_quarrels (a0 : Nat) : PP Int32 := bd (FX11_crossings a0 (0 : Int32)) (fun x1 => pu x1)
set_option maxHeartbeats 4000000 in
set_option maxRecDepth 100000 in
theorem SX11_quarrels {l : Launch} {K : KK} {n : Nat} {hn : 270 ≤ n} (a0 : Nat) (h0 : ob a0 10) : CT l K n 3 mX11_quarrels [.ref (K.2.1 + a0)] enI (FX11_quarrels a0) := by
  refine CT.of2 (lv2 := [(0, .ref (K.2.1 + a0))]) (by decide) rfl hn (Nat.le_of_ble_eq_true rfl) rfl (rp_id ?_)
  unfold FX11_quarrels
  refine rp_aload_n 0 dX11_quarrels_0 rfl ?_
  refine rp_iconst (0 : Int32) dX11_quarrels_1 (by decide) ?_
  refine rp_callVi [.int (0 : Int32)] (SX11_crossings (hn := hn) a0 (0 : Int32) h0) cvX11_crossings (mw (i := 1113) (by decide +kernel)) (by omega) h0 (by decide) rfl rfl rfl (Nat.le_of_ble_eq_true rfl) dX11_quarrels_2 (fun x1 => ?_)
  exact rp_pu (rp_iret rfl dX11_quarrels_5)

theorem dX11_changedBy_0 : decode cX11_changedBy 0 = .ok (.aload_n 0, 1) := by decide +kernel
theorem dX11_changedBy_1 : decode cX11_changedBy 1 = .ok (.getfield 51, 3) := by decide +kernel
theorem dX11_changedBy_4 : decode cX11_changedBy 4 = .ok (.aload_n 0, 1) := by decide +kernel
theorem dX11_changedBy_5 : decode cX11_changedBy 5 = .ok (.getfield 47, 3) := by decide +kernel
theorem dX11_changedBy_8 : decode cX11_changedBy 8 = .ok (.invokevirtual 260, 3) := by decide +kernel
theorem dX11_changedBy_11 : decode cX11_changedBy 11 = .ok (.aload_n 0, 1) := by decide +kernel
theorem dX11_changedBy_12 : decode cX11_changedBy 12 = .ok (.getfield 51, 3) := by decide +kernel
theorem dX11_changedBy_15 : decode cX11_changedBy 15 = .ok (.iload_n 1, 1) := by decide +kernel
theorem dX11_changedBy_16 : decode cX11_changedBy 16 = .ok (.iload_n 2, 1) := by decide +kernel
theorem dX11_changedBy_17 : decode cX11_changedBy 17 = .ok (.iconst 1, 1) := by decide +kernel
theorem dX11_changedBy_18 : decode cX11_changedBy 18 = .ok (.invokevirtual 214, 3) := by decide +kernel
theorem dX11_changedBy_21 : decode cX11_changedBy 21 = .ok (.iconst 0, 1) := by decide +kernel
theorem dX11_changedBy_22 : decode cX11_changedBy 22 = .ok (.istore_n 3, 1) := by decide +kernel
theorem dX11_changedBy_23 : decode cX11_changedBy 23 = .ok (.iconst 0, 1) := by decide +kernel
theorem dX11_changedBy_24 : decode cX11_changedBy 24 = .ok (.istore 4, 2) := by decide +kernel
theorem dX11_changedBy_26 : decode cX11_changedBy 26 = .ok (.iload 4, 2) := by decide +kernel
theorem dX11_changedBy_28 : decode cX11_changedBy 28 = .ok (.aload_n 0, 1) := by decide +kernel
theorem dX11_changedBy_29 : decode cX11_changedBy 29 = .ok (.getfield 19, 3) := by decide +kernel
theorem dX11_changedBy_32 : decode cX11_changedBy 32 = .ok (.getfield 186, 3) := by decide +kernel
theorem dX11_changedBy_35 : decode cX11_changedBy 35 = .ok (.if_icmp .ge 35, 3) := by decide +kernel
theorem dX11_changedBy_38 : decode cX11_changedBy 38 = .ok (.aload_n 0, 1) := by decide +kernel
theorem dX11_changedBy_39 : decode cX11_changedBy 39 = .ok (.getfield 51, 3) := by decide +kernel
theorem dX11_changedBy_42 : decode cX11_changedBy 42 = .ok (.iload 4, 2) := by decide +kernel
theorem dX11_changedBy_44 : decode cX11_changedBy 44 = .ok (.iconst 0, 1) := by decide +kernel
theorem dX11_changedBy_45 : decode cX11_changedBy 45 = .ok (.invokevirtual 170, 3) := by decide +kernel
theorem dX11_changedBy_48 : decode cX11_changedBy 48 = .ok (.aload_n 0, 1) := by decide +kernel
theorem dX11_changedBy_49 : decode cX11_changedBy 49 = .ok (.getfield 47, 3) := by decide +kernel
theorem dX11_changedBy_52 : decode cX11_changedBy 52 = .ok (.iload 4, 2) := by decide +kernel
theorem dX11_changedBy_54 : decode cX11_changedBy 54 = .ok (.iconst 0, 1) := by decide +kernel
theorem dX11_changedBy_55 : decode cX11_changedBy 55 = .ok (.invokevirtual 170, 3) := by decide +kernel
theorem dX11_changedBy_58 : decode cX11_changedBy 58 = .ok (.if_icmp .eq 6, 3) := by decide +kernel
theorem dX11_changedBy_61 : decode cX11_changedBy 61 = .ok (.iinc 3 1, 3) := by decide +kernel
theorem dX11_changedBy_64 : decode cX11_changedBy 64 = .ok (.iinc 4 1, 3) := by decide +kernel
theorem dX11_changedBy_67 : decode cX11_changedBy 67 = .ok (.goto (-41), 3) := by decide +kernel
theorem dX11_changedBy_70 : decode cX11_changedBy 70 = .ok (.iload_n 3, 1) := by decide +kernel
theorem dX11_changedBy_71 : decode cX11_changedBy 71 = .ok (.ireturn, 1) := by decide +kernel
abbrev mX11_changedBy : MI := (RX11, yX11_changedBy, cX11_changedBy, 5, some .int)
theorem cvX11_changedBy : CV mX11_changedBy 2 := ⟨⟨mw (i := 1140) (by decide +kernel), mw (i := 1) (by decide +kernel), ⟨by decide +kernel, by decide +kernel, by decide +kernel⟩, by decide⟩, mw (i := 1139) (by decide +kernel), mp2 (i := 33) 12 (by decide +kernel)⟩
def FX11_changedBy (a0 : Nat) (p1 : Int32) (p2 : Int32) : PP Int32 := bd (FX4_copyFrom (rf a0 6) (rf a0 5)) (fun (_ : Unit) => bd (FX4_putUp (rf a0 6) p1 p2 (1 : Int32)) (fun (_ : Unit) => bd (it (fun (s3 : Int32 × Int32) => (bd (gI (rf a0 1) 10) (fun x4 => if x4 ≤ s3.2 then pu (Sum.inr s3.1) else bd (FX4_weather (rf a0 6) s3.2 (0 : Int32)) (fun x5 => bd (FX4_weather (rf a0 5) s3.2 (0 : Int32)) (fun x6 => bd (if x5 = x6 then pu s3.1 else lt (s3.1 + (1 : Int32)) (fun y7 => pu y7) : PP (Int32)) (fun (v8 : Int32) => lt (s3.2 + (1 : Int32)) (fun y9 => pu (Sum.inl (v8, y9))))))) : PP ((Int32 × Int32) ⊕ (Int32)))) FU ((0 : Int32), (0 : Int32))) (fun (v10 : Int32) => pu v10)))
set_option maxHeartbeats 4000000 in
set_option maxRecDepth 100000 in
theorem SX11_changedBy {l : Launch} {K : KK} {n : Nat} {hn : 270 ≤ n} (a0 : Nat) (p1 : Int32) (p2 : Int32) (h0 : ob a0 10) : CT l K n 2 mX11_changedBy [.ref (K.2.1 + a0), .int p1, .int p2] enI (FX11_changedBy a0 p1 p2) := by
  refine CT.of2 (lv2 := [(0, .ref (K.2.1 + a0)), (1, .int p1), (2, .int p2)]) (by decide) rfl hn (Nat.le_of_ble_eq_true rfl) rfl (rp_id ?_)
  unfold FX11_changedBy
  refine rp_aload_n 0 dX11_changedBy_0 rfl ?_
  refine rp_getR fi_X11_51 h0 rfl dX11_changedBy_1 ?_
  refine rp_aload_n 0 dX11_changedBy_4 rfl ?_
  refine rp_getR fi_X11_47 h0 rfl dX11_changedBy_5 ?_
  refine rp_callVv [.ref (K.2.1 + (rf a0 5))] (SX4_copyFrom (hn := hn) (rf a0 6) (rf a0 5) (tX11_6 h0) (tX11_5 h0)) cvX4_copyFrom (mw (i := 988) (by decide +kernel)) (by omega) (tX11_6 h0) (by decide) rfl rfl rfl (Nat.le_of_ble_eq_true rfl) dX11_changedBy_8 (fun x1 => ?_)
  refine rp_aload_n 0 dX11_changedBy_11 rfl ?_
  refine rp_getR fi_X11_51 h0 rfl dX11_changedBy_12 ?_
  refine rp_iload_n 1 dX11_changedBy_15 rfl ?_
  refine rp_iload_n 2 dX11_changedBy_16 rfl ?_
  refine rp_iconst (1 : Int32) dX11_changedBy_17 (by decide) ?_
  refine rp_callVv [.int p1, .int p2, .int (1 : Int32)] (SX4_putUp (hn := hn) (rf a0 6) p1 p2 (1 : Int32) (tX11_6 h0)) cvX4_putUp (mw (i := 872) (by decide +kernel)) (by omega) (tX11_6 h0) (by decide) rfl rfl rfl (Nat.le_of_ble_eq_true rfl) dX11_changedBy_18 (fun x2 => ?_)
  refine rp_iconst (0 : Int32) dX11_changedBy_21 (by decide) ?_
  refine rp_istore_n [(3, .int (0 : Int32)), (0, .ref (K.2.1 + a0)), (1, .int p1), (2, .int p2)] dX11_changedBy_22 (by decide) rfl ?_
  refine rp_iconst (0 : Int32) dX11_changedBy_23 (by decide) ?_
  refine rp_istore [(4, .int (0 : Int32)), (3, .int (0 : Int32)), (0, .ref (K.2.1 + a0)), (1, .int p1), (2, .int p2)] dX11_changedBy_24 (by decide) rfl ?_
  refine rp_as ?_
  refine rp_join 70 (fun v10 => [(3, .int v10)]) (fun _ => []) (fun v10 => ?_) (fun hX26_0 => ?_)
  · refine rp_iload_n 0 dX11_changedBy_70 rfl ?_
    exact rp_pu (rp_iret rfl dX11_changedBy_71)
  refine rp_sub [2, 1, 0] rfl (rp_it (fun (s3 : Int32 × Int32) => [(0, .ref (K.2.1 + a0)), (3, .int s3.1), (4, .int s3.2)]) (fun N26 ih26 s3 => ?_) FU ((0 : Int32), (0 : Int32)))
  refine rp_iload 2 dX11_changedBy_26 rfl ?_
  refine rp_aload_n 0 dX11_changedBy_28 rfl ?_
  refine rp_getR fi_X11_19 h0 rfl dX11_changedBy_29 ?_
  refine rp_getI fi_X11_186 (tX11_1 h0) rfl dX11_changedBy_32 (fun x4 => ?_)
  refine rp_icmp_ge 70 dX11_changedBy_35 (by decide) ?_ ?_
  · exact rp_sub [1] rfl (rp_pu (hX26_0 s3.1))
  · refine rp_aload_n 0 dX11_changedBy_38 rfl ?_
    refine rp_getR fi_X11_51 h0 rfl dX11_changedBy_39 ?_
    refine rp_iload 2 dX11_changedBy_42 rfl ?_
    refine rp_iconst (0 : Int32) dX11_changedBy_44 (by decide) ?_
    refine rp_callVi [.int s3.2, .int (0 : Int32)] (SX4_weather (hn := hn) (rf a0 6) s3.2 (0 : Int32) (tX11_6 h0)) cvX4_weather (mw (i := 808) (by decide +kernel)) (by omega) (tX11_6 h0) (by decide) rfl rfl rfl (Nat.le_of_ble_eq_true rfl) dX11_changedBy_45 (fun x5 => ?_)
    refine rp_aload_n 0 dX11_changedBy_48 rfl ?_
    refine rp_getR fi_X11_47 h0 rfl dX11_changedBy_49 ?_
    refine rp_iload 2 dX11_changedBy_52 rfl ?_
    refine rp_iconst (0 : Int32) dX11_changedBy_54 (by decide) ?_
    refine rp_callVi [.int s3.2, .int (0 : Int32)] (SX4_weather (hn := hn) (rf a0 5) s3.2 (0 : Int32) (tX11_5 h0)) cvX4_weather (mw (i := 808) (by decide +kernel)) (by omega) (tX11_5 h0) (by decide) rfl rfl rfl (Nat.le_of_ble_eq_true rfl) dX11_changedBy_55 (fun x6 => ?_)
    refine rp_as ?_
    refine rp_join 64 (fun (v8 : Int32) => [(0, .ref (K.2.1 + a0)), (3, .int v8), (4, .int s3.2)]) (fun v8 => []) (fun v8 => ?_) (fun hJ64 => ?_)
    · refine rp_iinc (fun y9 => [(4, .int y9), (0, .ref (K.2.1 + a0)), (3, .int v8)]) 2 dX11_changedBy_64 rfl (by rfl) (by decide) (fun y9 => rfl) (fun y9 => ?_)
      refine rp_goto 26 dX11_changedBy_67 (by decide) ?_
      exact rp_sub [1, 2, 0] rfl (ih26 (v8, y9))
    refine rp_icmp_eq 64 dX11_changedBy_58 (by decide) ?_ ?_
    · exact rp_sub [0, 1, 2] rfl (rp_pu (hJ64 s3.1))
    · refine rp_iinc (fun y7 => [(3, .int y7), (0, .ref (K.2.1 + a0)), (4, .int s3.2)]) 1 dX11_changedBy_61 rfl (by rfl) (by decide) (fun y7 => rfl) (fun y7 => ?_)
      exact rp_sub [1, 0, 2] rfl (rp_pu (hJ64 y7))

theorem dX11_best_0 : decode cX11_best 0 = .ok (.aload_n 0, 1) := by decide +kernel
theorem dX11_best_1 : decode cX11_best 1 = .ok (.getfield 47, 3) := by decide +kernel
theorem dX11_best_4 : decode cX11_best 4 = .ok (.iload_n 1, 1) := by decide +kernel
theorem dX11_best_5 : decode cX11_best 5 = .ok (.invokevirtual 225, 3) := by decide +kernel
theorem dX11_best_8 : decode cX11_best 8 = .ok (.ifCond .ne 5, 3) := by decide +kernel
theorem dX11_best_11 : decode cX11_best 11 = .ok (.iconst (-1), 1) := by decide +kernel
theorem dX11_best_12 : decode cX11_best 12 = .ok (.ireturn, 1) := by decide +kernel
theorem dX11_best_13 : decode cX11_best 13 = .ok (.iconst (-1), 1) := by decide +kernel
theorem dX11_best_14 : decode cX11_best 14 = .ok (.istore_n 2, 1) := by decide +kernel
theorem dX11_best_15 : decode cX11_best 15 = .ok (.iconst 0, 1) := by decide +kernel
theorem dX11_best_16 : decode cX11_best 16 = .ok (.istore_n 3, 1) := by decide +kernel
theorem dX11_best_17 : decode cX11_best 17 = .ok (.iconst 0, 1) := by decide +kernel
theorem dX11_best_18 : decode cX11_best 18 = .ok (.istore 4, 2) := by decide +kernel
theorem dX11_best_20 : decode cX11_best 20 = .ok (.iload 4, 2) := by decide +kernel
theorem dX11_best_22 : decode cX11_best 22 = .ok (.aload_n 0, 1) := by decide +kernel
theorem dX11_best_23 : decode cX11_best 23 = .ok (.getfield 19, 3) := by decide +kernel
theorem dX11_best_26 : decode cX11_best 26 = .ok (.getfield 183, 3) := by decide +kernel
theorem dX11_best_29 : decode cX11_best 29 = .ok (.if_icmp .ge 46, 3) := by decide +kernel
theorem dX11_best_32 : decode cX11_best 32 = .ok (.aload_n 0, 1) := by decide +kernel
theorem dX11_best_33 : decode cX11_best 33 = .ok (.getfield 47, 3) := by decide +kernel
theorem dX11_best_36 : decode cX11_best 36 = .ok (.iload 4, 2) := by decide +kernel
theorem dX11_best_38 : decode cX11_best 38 = .ok (.invokevirtual 139, 3) := by decide +kernel
theorem dX11_best_41 : decode cX11_best 41 = .ok (.ifCond .le 13, 3) := by decide +kernel
theorem dX11_best_44 : decode cX11_best 44 = .ok (.aload_n 0, 1) := by decide +kernel
theorem dX11_best_45 : decode cX11_best 45 = .ok (.iload_n 1, 1) := by decide +kernel
theorem dX11_best_46 : decode cX11_best 46 = .ok (.iload 4, 2) := by decide +kernel
theorem dX11_best_48 : decode cX11_best 48 = .ok (.invokevirtual 311, 3) := by decide +kernel
theorem dX11_best_51 : decode cX11_best 51 = .ok (.goto 4, 3) := by decide +kernel
theorem dX11_best_54 : decode cX11_best 54 = .ok (.iconst 0, 1) := by decide +kernel
theorem dX11_best_55 : decode cX11_best 55 = .ok (.istore 5, 2) := by decide +kernel
theorem dX11_best_57 : decode cX11_best 57 = .ok (.iload 5, 2) := by decide +kernel
theorem dX11_best_59 : decode cX11_best 59 = .ok (.iload_n 3, 1) := by decide +kernel
theorem dX11_best_60 : decode cX11_best 60 = .ok (.if_icmp .le 9, 3) := by decide +kernel
theorem dX11_best_63 : decode cX11_best 63 = .ok (.iload 5, 2) := by decide +kernel
theorem dX11_best_65 : decode cX11_best 65 = .ok (.istore_n 3, 1) := by decide +kernel
theorem dX11_best_66 : decode cX11_best 66 = .ok (.iload 4, 2) := by decide +kernel
theorem dX11_best_68 : decode cX11_best 68 = .ok (.istore_n 2, 1) := by decide +kernel
theorem dX11_best_69 : decode cX11_best 69 = .ok (.iinc 4 1, 3) := by decide +kernel
theorem dX11_best_72 : decode cX11_best 72 = .ok (.goto (-52), 3) := by decide +kernel
theorem dX11_best_75 : decode cX11_best 75 = .ok (.iload_n 2, 1) := by decide +kernel
theorem dX11_best_76 : decode cX11_best 76 = .ok (.ireturn, 1) := by decide +kernel
abbrev mX11_best : MI := (RX11, yX11_best, cX11_best, 6, some .int)
theorem cvX11_best : CV mX11_best 1 := ⟨⟨mw (i := 1136) (by decide +kernel), mw (i := 1) (by decide +kernel), ⟨by decide +kernel, by decide +kernel, by decide +kernel⟩, by decide⟩, mw (i := 1134) (by decide +kernel), mw (i := 1135) (by decide +kernel)⟩
def FX11_best (a0 : Nat) (p1 : Int32) : PP Int32 := bd (FX4_lies (rf a0 5) p1) (fun x1 => if ((b2i x1)) = 0 then pu (-1 : Int32) else bd (it (fun (s2 : Int32 × Int32 × Int32) => (bd (gI (rf a0 1) 9) (fun x3 => if x3 ≤ s2.2.2 then pu (Sum.inr s2.1) else bd (FX4_freeOn (rf a0 5) s2.2.2) (fun x4 => bd (if x4 ≤ 0 then pu (0 : Int32) else bd (FX11_changedBy a0 p1 s2.2.2) (fun x5 => pu x5) : PP (Int32)) (fun (v6 : Int32) => bd (if v6 ≤ s2.2.1 then pu (s2.1, s2.2.1) else pu (s2.2.2, v6) : PP (Int32 × Int32)) (fun (v7 : Int32 × Int32) => lt (s2.2.2 + (1 : Int32)) (fun y8 => pu (Sum.inl (v7.1, v7.2, y8))))))) : PP ((Int32 × Int32 × Int32) ⊕ (Int32)))) FU ((-1 : Int32), (0 : Int32), (0 : Int32))) (fun (v9 : Int32) => pu v9))
set_option maxHeartbeats 4000000 in
set_option maxRecDepth 100000 in
theorem SX11_best {l : Launch} {K : KK} {n : Nat} {hn : 270 ≤ n} (a0 : Nat) (p1 : Int32) (h0 : ob a0 10) : CT l K n 3 mX11_best [.ref (K.2.1 + a0), .int p1] enI (FX11_best a0 p1) := by
  refine CT.of2 (lv2 := [(0, .ref (K.2.1 + a0)), (1, .int p1)]) (by decide) rfl hn (Nat.le_of_ble_eq_true rfl) rfl (rp_id ?_)
  unfold FX11_best
  refine rp_aload_n 0 dX11_best_0 rfl ?_
  refine rp_getR fi_X11_47 h0 rfl dX11_best_1 ?_
  refine rp_iload_n 1 dX11_best_4 rfl ?_
  refine rp_callVz [.int p1] (SX4_lies (hn := hn) (rf a0 5) p1 (tX11_5 h0)) cvX4_lies (mw (i := 892) (by decide +kernel)) (by omega) (tX11_5 h0) (by decide) rfl rfl rfl (Nat.le_of_ble_eq_true rfl) dX11_best_5 (fun x1 => ?_)
  refine rp_if_ne 13 dX11_best_8 (by decide) ?_ ?_
  · refine rp_iconst (-1 : Int32) dX11_best_13 (by decide) ?_
    refine rp_istore_n [(2, .int (-1 : Int32)), (0, .ref (K.2.1 + a0)), (1, .int p1)] dX11_best_14 (by decide) rfl ?_
    refine rp_iconst (0 : Int32) dX11_best_15 (by decide) ?_
    refine rp_istore_n [(3, .int (0 : Int32)), (2, .int (-1 : Int32)), (0, .ref (K.2.1 + a0)), (1, .int p1)] dX11_best_16 (by decide) rfl ?_
    refine rp_iconst (0 : Int32) dX11_best_17 (by decide) ?_
    refine rp_istore [(4, .int (0 : Int32)), (3, .int (0 : Int32)), (2, .int (-1 : Int32)), (0, .ref (K.2.1 + a0)), (1, .int p1)] dX11_best_18 (by decide) rfl ?_
    refine rp_as ?_
    refine rp_join 75 (fun v9 => [(2, .int v9)]) (fun _ => []) (fun v9 => ?_) (fun hX20_0 => ?_)
    · refine rp_iload_n 0 dX11_best_75 rfl ?_
      exact rp_pu (rp_iret rfl dX11_best_76)
    refine rp_sub [3, 4, 2, 1, 0] rfl (rp_it (fun (s2 : Int32 × Int32 × Int32) => [(0, .ref (K.2.1 + a0)), (1, .int p1), (2, .int s2.1), (3, .int s2.2.1), (4, .int s2.2.2)]) (fun N20 ih20 s2 => ?_) FU ((-1 : Int32), (0 : Int32), (0 : Int32)))
    refine rp_iload 4 dX11_best_20 rfl ?_
    refine rp_aload_n 0 dX11_best_22 rfl ?_
    refine rp_getR fi_X11_19 h0 rfl dX11_best_23 ?_
    refine rp_getI fi_X11_183 (tX11_1 h0) rfl dX11_best_26 (fun x3 => ?_)
    refine rp_icmp_ge 75 dX11_best_29 (by decide) ?_ ?_
    · exact rp_sub [2] rfl (rp_pu (hX20_0 s2.1))
    · refine rp_aload_n 0 dX11_best_32 rfl ?_
      refine rp_getR fi_X11_47 h0 rfl dX11_best_33 ?_
      refine rp_iload 4 dX11_best_36 rfl ?_
      refine rp_callVi [.int s2.2.2] (SX4_freeOn (hn := hn) (rf a0 5) s2.2.2 (tX11_5 h0)) cvX4_freeOn (mw (i := 784) (by decide +kernel)) (by omega) (tX11_5 h0) (by decide) rfl rfl rfl (Nat.le_of_ble_eq_true rfl) dX11_best_38 (fun x4 => ?_)
      refine rp_as ?_
      refine rp_join 55 (fun (v6 : Int32) => [(0, .ref (K.2.1 + a0)), (1, .int p1), (2, .int s2.1), (3, .int s2.2.1), (4, .int s2.2.2)]) (fun v6 => [.int v6]) (fun v6 => ?_) (fun hJ55 => ?_)
      · refine rp_istore [(5, .int v6), (0, .ref (K.2.1 + a0)), (1, .int p1), (2, .int s2.1), (3, .int s2.2.1), (4, .int s2.2.2)] dX11_best_55 (by decide) rfl ?_
        refine rp_iload 0 dX11_best_57 rfl ?_
        refine rp_iload_n 4 dX11_best_59 rfl ?_
        refine rp_as ?_
        refine rp_join 69 (fun (v7 : Int32 × Int32) => [(0, .ref (K.2.1 + a0)), (1, .int p1), (2, .int v7.1), (3, .int v7.2), (4, .int s2.2.2)]) (fun v7 => []) (fun v7 => ?_) (fun hJ69 => ?_)
        · refine rp_iinc (fun y8 => [(4, .int y8), (0, .ref (K.2.1 + a0)), (1, .int p1), (2, .int v7.1), (3, .int v7.2)]) 4 dX11_best_69 rfl (by rfl) (by decide) (fun y8 => rfl) (fun y8 => ?_)
          refine rp_goto 20 dX11_best_72 (by decide) ?_
          exact rp_sub [1, 2, 3, 4, 0] rfl (ih20 (v7.1, v7.2, y8))
        refine rp_icmp_le 69 dX11_best_60 (by decide) ?_ ?_
        · exact rp_sub [1, 2, 3, 4, 5] rfl (rp_pu (hJ69 (s2.1, s2.2.1)))
        · refine rp_iload 0 dX11_best_63 rfl ?_
          refine rp_istore_n [(3, .int v6), (5, .int v6), (0, .ref (K.2.1 + a0)), (1, .int p1), (2, .int s2.1), (4, .int s2.2.2)] dX11_best_65 (by decide) rfl ?_
          refine rp_iload 5 dX11_best_66 rfl ?_
          refine rp_istore_n [(2, .int s2.2.2), (3, .int v6), (5, .int v6), (0, .ref (K.2.1 + a0)), (1, .int p1), (4, .int s2.2.2)] dX11_best_68 (by decide) rfl ?_
          exact rp_sub [3, 4, 0, 1, 5] rfl (rp_pu (hJ69 (s2.2.2, v6)))
      refine rp_if_le 54 dX11_best_41 (by decide) ?_ ?_
      · refine rp_iconst (0 : Int32) dX11_best_54 (by decide) ?_
        exact rp_sub [0, 1, 2, 3, 4] rfl (rp_pu (hJ55 (0 : Int32)))
      · refine rp_aload_n 0 dX11_best_44 rfl ?_
        refine rp_iload_n 1 dX11_best_45 rfl ?_
        refine rp_iload 4 dX11_best_46 rfl ?_
        refine rp_callVi [.int p1, .int s2.2.2] (SX11_changedBy (hn := hn) a0 p1 s2.2.2 h0) cvX11_changedBy (mw (i := 1137) (by decide +kernel)) (by omega) h0 (by decide) rfl rfl rfl (Nat.le_of_ble_eq_true rfl) dX11_best_48 (fun x5 => ?_)
        refine rp_goto 55 dX11_best_51 (by decide) ?_
        exact rp_sub [0, 1, 2, 3, 4] rfl (rp_pu (hJ55 x5))
  · refine rp_iconst (-1 : Int32) dX11_best_11 (by decide) ?_
    exact rp_pu (rp_iret rfl dX11_best_12)

theorem dX11_owes_0 : decode cX11_owes 0 = .ok (.aload_n 0, 1) := by decide +kernel
theorem dX11_owes_1 : decode cX11_owes 1 = .ok (.getfield 19, 3) := by decide +kernel
theorem dX11_owes_4 : decode cX11_owes 4 = .ok (.iload_n 1, 1) := by decide +kernel
theorem dX11_owes_5 : decode cX11_owes 5 = .ok (.invokevirtual 167, 3) := by decide +kernel
theorem dX11_owes_8 : decode cX11_owes 8 = .ok (.ifCond .ne 5, 3) := by decide +kernel
theorem dX11_owes_11 : decode cX11_owes 11 = .ok (.iconst (-1), 1) := by decide +kernel
theorem dX11_owes_12 : decode cX11_owes 12 = .ok (.ireturn, 1) := by decide +kernel
theorem dX11_owes_13 : decode cX11_owes 13 = .ok (.aload_n 0, 1) := by decide +kernel
theorem dX11_owes_14 : decode cX11_owes 14 = .ok (.getfield 47, 3) := by decide +kernel
theorem dX11_owes_17 : decode cX11_owes 17 = .ok (.iload_n 1, 1) := by decide +kernel
theorem dX11_owes_18 : decode cX11_owes 18 = .ok (.iconst 0, 1) := by decide +kernel
theorem dX11_owes_19 : decode cX11_owes 19 = .ok (.invokevirtual 170, 3) := by decide +kernel
theorem dX11_owes_22 : decode cX11_owes 22 = .ok (.istore_n 2, 1) := by decide +kernel
theorem dX11_owes_23 : decode cX11_owes 23 = .ok (.iconst 0, 1) := by decide +kernel
theorem dX11_owes_24 : decode cX11_owes 24 = .ok (.istore_n 3, 1) := by decide +kernel
theorem dX11_owes_25 : decode cX11_owes 25 = .ok (.iload_n 3, 1) := by decide +kernel
theorem dX11_owes_26 : decode cX11_owes 26 = .ok (.aload_n 0, 1) := by decide +kernel
theorem dX11_owes_27 : decode cX11_owes 27 = .ok (.getfield 19, 3) := by decide +kernel
theorem dX11_owes_30 : decode cX11_owes 30 = .ok (.getfield 189, 3) := by decide +kernel
theorem dX11_owes_33 : decode cX11_owes 33 = .ok (.if_icmp .ge 37, 3) := by decide +kernel
theorem dX11_owes_36 : decode cX11_owes 36 = .ok (.aload_n 0, 1) := by decide +kernel
theorem dX11_owes_37 : decode cX11_owes 37 = .ok (.getfield 47, 3) := by decide +kernel
theorem dX11_owes_40 : decode cX11_owes 40 = .ok (.iload_n 3, 1) := by decide +kernel
theorem dX11_owes_41 : decode cX11_owes 41 = .ok (.invokevirtual 218, 3) := by decide +kernel
theorem dX11_owes_44 : decode cX11_owes 44 = .ok (.ifCond .eq 20, 3) := by decide +kernel
theorem dX11_owes_47 : decode cX11_owes 47 = .ok (.aload_n 0, 1) := by decide +kernel
theorem dX11_owes_48 : decode cX11_owes 48 = .ok (.getfield 47, 3) := by decide +kernel
theorem dX11_owes_51 : decode cX11_owes 51 = .ok (.iload_n 1, 1) := by decide +kernel
theorem dX11_owes_52 : decode cX11_owes 52 = .ok (.iconst 1, 1) := by decide +kernel
theorem dX11_owes_53 : decode cX11_owes 53 = .ok (.iload_n 3, 1) := by decide +kernel
theorem dX11_owes_54 : decode cX11_owes 54 = .ok (.ishl, 1) := by decide +kernel
theorem dX11_owes_55 : decode cX11_owes 55 = .ok (.invokevirtual 170, 3) := by decide +kernel
theorem dX11_owes_58 : decode cX11_owes 58 = .ok (.iload_n 2, 1) := by decide +kernel
theorem dX11_owes_59 : decode cX11_owes 59 = .ok (.if_icmp .eq 5, 3) := by decide +kernel
theorem dX11_owes_62 : decode cX11_owes 62 = .ok (.iload_n 3, 1) := by decide +kernel
theorem dX11_owes_63 : decode cX11_owes 63 = .ok (.ireturn, 1) := by decide +kernel
theorem dX11_owes_64 : decode cX11_owes 64 = .ok (.iinc 3 1, 3) := by decide +kernel
theorem dX11_owes_67 : decode cX11_owes 67 = .ok (.goto (-42), 3) := by decide +kernel
theorem dX11_owes_70 : decode cX11_owes 70 = .ok (.iconst (-1), 1) := by decide +kernel
theorem dX11_owes_71 : decode cX11_owes 71 = .ok (.ireturn, 1) := by decide +kernel
abbrev mX11_owes : MI := (RX11, yX11_owes, cX11_owes, 4, some .int)
theorem cvX11_owes : CV mX11_owes 1 := ⟨⟨mw (i := 1144) (by decide +kernel), mw (i := 1) (by decide +kernel), ⟨by decide +kernel, by decide +kernel, by decide +kernel⟩, by decide⟩, mw (i := 1142) (by decide +kernel), mw (i := 1143) (by decide +kernel)⟩
def FX11_owes (a0 : Nat) (p1 : Int32) : PP Int32 := bd (FX7_hasPlace (rf a0 1) p1) (fun x1 => if ((b2i x1)) = 0 then pu (-1 : Int32) else bd (FX4_weather (rf a0 5) p1 (0 : Int32)) (fun x2 => bd (it (fun (s3 : Int32) => (bd (gI (rf a0 1) 11) (fun x4 => if x4 ≤ s3 then pu (Sum.inr (Sum.inl ())) else bd (FX4_hangs (rf a0 5) s3) (fun x5 => if ((b2i x5)) = 0 then lt (s3 + (1 : Int32)) (fun y6 => pu (Sum.inl y6)) else bd (FX4_weather (rf a0 5) p1 ((1 : Int32) <<< (s3 &&& 31))) (fun x7 => if x7 = x2 then lt (s3 + (1 : Int32)) (fun y8 => pu (Sum.inl y8)) else pu (Sum.inr (Sum.inr (s3)))))) : PP ((Int32) ⊕ ((Unit) ⊕ (Int32))))) FU (0 : Int32)) (Sum.elim (fun (v9 : Unit) => pu (-1 : Int32)) (fun (v10 : Int32) => pu v10))))
set_option maxHeartbeats 4000000 in
set_option maxRecDepth 100000 in
theorem SX11_owes {l : Launch} {K : KK} {n : Nat} {hn : 270 ≤ n} (a0 : Nat) (p1 : Int32) (h0 : ob a0 10) : CT l K n 2 mX11_owes [.ref (K.2.1 + a0), .int p1] enI (FX11_owes a0 p1) := by
  refine CT.of2 (lv2 := [(0, .ref (K.2.1 + a0)), (1, .int p1)]) (by decide) rfl hn (Nat.le_of_ble_eq_true rfl) rfl (rp_id ?_)
  unfold FX11_owes
  refine rp_aload_n 0 dX11_owes_0 rfl ?_
  refine rp_getR fi_X11_19 h0 rfl dX11_owes_1 ?_
  refine rp_iload_n 1 dX11_owes_4 rfl ?_
  refine rp_callVz [.int p1] (SX7_hasPlace (hn := hn) (rf a0 1) p1 (tX11_1 h0)) cvX7_hasPlace (mw (i := 804) (by decide +kernel)) (by omega) (tX11_1 h0) (by decide) rfl rfl rfl (Nat.le_of_ble_eq_true rfl) dX11_owes_5 (fun x1 => ?_)
  refine rp_if_ne 13 dX11_owes_8 (by decide) ?_ ?_
  · refine rp_aload_n 0 dX11_owes_13 rfl ?_
    refine rp_getR fi_X11_47 h0 rfl dX11_owes_14 ?_
    refine rp_iload_n 1 dX11_owes_17 rfl ?_
    refine rp_iconst (0 : Int32) dX11_owes_18 (by decide) ?_
    refine rp_callVi [.int p1, .int (0 : Int32)] (SX4_weather (hn := hn) (rf a0 5) p1 (0 : Int32) (tX11_5 h0)) cvX4_weather (mw (i := 808) (by decide +kernel)) (by omega) (tX11_5 h0) (by decide) rfl rfl rfl (Nat.le_of_ble_eq_true rfl) dX11_owes_19 (fun x2 => ?_)
    refine rp_istore_n [(2, .int x2), (0, .ref (K.2.1 + a0)), (1, .int p1)] dX11_owes_22 (by decide) rfl ?_
    refine rp_iconst (0 : Int32) dX11_owes_23 (by decide) ?_
    refine rp_istore_n [(3, .int (0 : Int32)), (2, .int x2), (0, .ref (K.2.1 + a0)), (1, .int p1)] dX11_owes_24 (by decide) rfl ?_
    refine rp_as ?_
    refine rp_join2 70 (fun v9 => []) (fun _ => []) 62 (fun v10 => [(3, .int v10)]) (fun _ => []) (fun v9 => ?_) (fun v10 => ?_) (fun hX25_0 hX25_1 => ?_)
    · refine rp_iconst (-1 : Int32) dX11_owes_70 (by decide) ?_
      exact rp_pu (rp_iret rfl dX11_owes_71)
    · refine rp_iload_n 0 dX11_owes_62 rfl ?_
      exact rp_pu (rp_iret rfl dX11_owes_63)
    refine rp_sub [2, 3, 1, 0] rfl (rp_it (fun (s3 : Int32) => [(0, .ref (K.2.1 + a0)), (1, .int p1), (2, .int x2), (3, .int s3)]) (fun N25 ih25 s3 => ?_) FU (0 : Int32))
    refine rp_iload_n 3 dX11_owes_25 rfl ?_
    refine rp_aload_n 0 dX11_owes_26 rfl ?_
    refine rp_getR fi_X11_19 h0 rfl dX11_owes_27 ?_
    refine rp_getI fi_X11_189 (tX11_1 h0) rfl dX11_owes_30 (fun x4 => ?_)
    refine rp_icmp_ge 70 dX11_owes_33 (by decide) ?_ ?_
    · exact rp_sub [] rfl (rp_pu (hX25_0 ()))
    · refine rp_aload_n 0 dX11_owes_36 rfl ?_
      refine rp_getR fi_X11_47 h0 rfl dX11_owes_37 ?_
      refine rp_iload_n 3 dX11_owes_40 rfl ?_
      refine rp_callVz [.int s3] (SX4_hangs (hn := hn) (rf a0 5) s3 (tX11_5 h0)) cvX4_hangs (mw (i := 880) (by decide +kernel)) (by omega) (tX11_5 h0) (by decide) rfl rfl rfl (Nat.le_of_ble_eq_true rfl) dX11_owes_41 (fun x5 => ?_)
      refine rp_if_eq 64 dX11_owes_44 (by decide) ?_ ?_
      · refine rp_iinc (fun y6 => [(3, .int y6), (0, .ref (K.2.1 + a0)), (1, .int p1), (2, .int x2)]) 3 dX11_owes_64 rfl (by rfl) (by decide) (fun y6 => rfl) (fun y6 => ?_)
        refine rp_goto 25 dX11_owes_67 (by decide) ?_
        exact rp_sub [1, 2, 3, 0] rfl (ih25 y6)
      · refine rp_aload_n 0 dX11_owes_47 rfl ?_
        refine rp_getR fi_X11_47 h0 rfl dX11_owes_48 ?_
        refine rp_iload_n 1 dX11_owes_51 rfl ?_
        refine rp_iconst (1 : Int32) dX11_owes_52 (by decide) ?_
        refine rp_iload_n 3 dX11_owes_53 rfl ?_
        refine rp_ishl dX11_owes_54 ?_
        refine rp_callVi [.int p1, .int ((1 : Int32) <<< (s3 &&& 31))] (SX4_weather (hn := hn) (rf a0 5) p1 ((1 : Int32) <<< (s3 &&& 31)) (tX11_5 h0)) cvX4_weather (mw (i := 808) (by decide +kernel)) (by omega) (tX11_5 h0) (by decide) rfl rfl rfl (Nat.le_of_ble_eq_true rfl) dX11_owes_55 (fun x7 => ?_)
        refine rp_iload_n 2 dX11_owes_58 rfl ?_
        refine rp_icmp_eq 64 dX11_owes_59 (by decide) ?_ ?_
        · refine rp_iinc (fun y8 => [(3, .int y8), (0, .ref (K.2.1 + a0)), (1, .int p1), (2, .int x2)]) 3 dX11_owes_64 rfl (by rfl) (by decide) (fun y8 => rfl) (fun y8 => ?_)
          refine rp_goto 25 dX11_owes_67 (by decide) ?_
          exact rp_sub [1, 2, 3, 0] rfl (ih25 y8)
        · exact rp_sub [3] rfl (rp_pu (hX25_1 s3))
  · refine rp_iconst (-1 : Int32) dX11_owes_11 (by decide) ?_
    exact rp_pu (rp_iret rfl dX11_owes_12)
