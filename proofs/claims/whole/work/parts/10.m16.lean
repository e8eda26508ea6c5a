theorem dX5_advance_0 : decode cX5_advance 0 = .ok (.aload_n 0, 1) := by decide +kernel
theorem dX5_advance_1 : decode cX5_advance 1 = .ok (.aconst_null, 1) := by decide +kernel
theorem dX5_advance_2 : decode cX5_advance 2 = .ok (.putfield 28, 3) := by decide +kernel
theorem dX5_advance_5 : decode cX5_advance 5 = .ok (.aload_n 0, 1) := by decide +kernel
theorem dX5_advance_6 : decode cX5_advance 6 = .ok (.lconst 0, 1) := by decide +kernel
theorem dX5_advance_7 : decode cX5_advance 7 = .ok (.putfield 32, 3) := by decide +kernel
theorem dX5_advance_10 : decode cX5_advance 10 = .ok (.aload_n 0, 1) := by decide +kernel
theorem dX5_advance_11 : decode cX5_advance 11 = .ok (.iconst 0, 1) := by decide +kernel
theorem dX5_advance_12 : decode cX5_advance 12 = .ok (.putfield 36, 3) := by decide +kernel
theorem dX5_advance_15 : decode cX5_advance 15 = .ok (.aload_n 0, 1) := by decide +kernel
theorem dX5_advance_16 : decode cX5_advance 16 = .ok (.getfield 22, 3) := by decide +kernel
theorem dX5_advance_19 : decode cX5_advance 19 = .ok (.aload_n 0, 1) := by decide +kernel
theorem dX5_advance_20 : decode cX5_advance 20 = .ok (.getfield 15, 3) := by decide +kernel
theorem dX5_advance_23 : decode cX5_advance 23 = .ok (.if_icmp .ge 31, 3) := by decide +kernel
theorem dX5_advance_26 : decode cX5_advance 26 = .ok (.aload_n 0, 1) := by decide +kernel
theorem dX5_advance_27 : decode cX5_advance 27 = .ok (.getfield 9, 3) := by decide +kernel
theorem dX5_advance_30 : decode cX5_advance 30 = .ok (.aload_n 0, 1) := by decide +kernel
theorem dX5_advance_31 : decode cX5_advance 31 = .ok (.getfield 22, 3) := by decide +kernel
theorem dX5_advance_34 : decode cX5_advance 34 = .ok (.caload, 1) := by decide +kernel
theorem dX5_advance_35 : decode cX5_advance 35 = .ok (.invokestatic 39, 3) := by decide +kernel
theorem dX5_advance_38 : decode cX5_advance 38 = .ok (.ifCond .eq 16, 3) := by decide +kernel
theorem dX5_advance_41 : decode cX5_advance 41 = .ok (.aload_n 0, 1) := by decide +kernel
theorem dX5_advance_42 : decode cX5_advance 42 = .ok (.dup, 1) := by decide +kernel
theorem dX5_advance_43 : decode cX5_advance 43 = .ok (.getfield 22, 3) := by decide +kernel
theorem dX5_advance_46 : decode cX5_advance 46 = .ok (.iconst 1, 1) := by decide +kernel
theorem dX5_advance_47 : decode cX5_advance 47 = .ok (.iadd, 1) := by decide +kernel
theorem dX5_advance_48 : decode cX5_advance 48 = .ok (.putfield 22, 3) := by decide +kernel
theorem dX5_advance_51 : decode cX5_advance 51 = .ok (.goto (-36), 3) := by decide +kernel
theorem dX5_advance_54 : decode cX5_advance 54 = .ok (.aload_n 0, 1) := by decide +kernel
theorem dX5_advance_55 : decode cX5_advance 55 = .ok (.aload_n 0, 1) := by decide +kernel
theorem dX5_advance_56 : decode cX5_advance 56 = .ok (.getfield 22, 3) := by decide +kernel
theorem dX5_advance_59 : decode cX5_advance 59 = .ok (.putfield 43, 3) := by decide +kernel
theorem dX5_advance_62 : decode cX5_advance 62 = .ok (.aload_n 0, 1) := by decide +kernel
theorem dX5_advance_63 : decode cX5_advance 63 = .ok (.getfield 22, 3) := by decide +kernel
theorem dX5_advance_66 : decode cX5_advance 66 = .ok (.aload_n 0, 1) := by decide +kernel
theorem dX5_advance_67 : decode cX5_advance 67 = .ok (.getfield 15, 3) := by decide +kernel
theorem dX5_advance_70 : decode cX5_advance 70 = .ok (.if_icmp .lt 9, 3) := by decide +kernel
theorem dX5_advance_73 : decode cX5_advance 73 = .ok (.aload_n 0, 1) := by decide +kernel
theorem dX5_advance_74 : decode cX5_advance 74 = .ok (.iconst 0, 1) := by decide +kernel
theorem dX5_advance_75 : decode cX5_advance 75 = .ok (.putfield 46, 3) := by decide +kernel
theorem dX5_advance_78 : decode cX5_advance 78 = .ok (.return_, 1) := by decide +kernel
theorem dX5_advance_79 : decode cX5_advance 79 = .ok (.aload_n 0, 1) := by decide +kernel
theorem dX5_advance_80 : decode cX5_advance 80 = .ok (.getfield 9, 3) := by decide +kernel
theorem dX5_advance_83 : decode cX5_advance 83 = .ok (.aload_n 0, 1) := by decide +kernel
theorem dX5_advance_84 : decode cX5_advance 84 = .ok (.getfield 22, 3) := by decide +kernel
theorem dX5_advance_87 : decode cX5_advance 87 = .ok (.caload, 1) := by decide +kernel
theorem dX5_advance_88 : decode cX5_advance 88 = .ok (.istore_n 1, 1) := by decide +kernel
theorem dX5_advance_89 : decode cX5_advance 89 = .ok (.iload_n 1, 1) := by decide +kernel
theorem dX5_advance_90 : decode cX5_advance 90 = .ok (.invokestatic 49, 3) := by decide +kernel
theorem dX5_advance_93 : decode cX5_advance 93 = .ok (.ifCond .eq 10, 3) := by decide +kernel
theorem dX5_advance_96 : decode cX5_advance 96 = .ok (.aload_n 0, 1) := by decide +kernel
theorem dX5_advance_97 : decode cX5_advance 97 = .ok (.invokevirtual 52, 3) := by decide +kernel
theorem dX5_advance_100 : decode cX5_advance 100 = .ok (.goto 45, 3) := by decide +kernel
theorem dX5_advance_103 : decode cX5_advance 103 = .ok (.iload_n 1, 1) := by decide +kernel
theorem dX5_advance_104 : decode cX5_advance 104 = .ok (.invokestatic 55, 3) := by decide +kernel
theorem dX5_advance_107 : decode cX5_advance 107 = .ok (.ifCond .eq 10, 3) := by decide +kernel
theorem dX5_advance_110 : decode cX5_advance 110 = .ok (.aload_n 0, 1) := by decide +kernel
theorem dX5_advance_111 : decode cX5_advance 111 = .ok (.invokevirtual 58, 3) := by decide +kernel
theorem dX5_advance_114 : decode cX5_advance 114 = .ok (.goto 31, 3) := by decide +kernel
theorem dX5_advance_117 : decode cX5_advance 117 = .ok (.aload_n 0, 1) := by decide +kernel
theorem dX5_advance_118 : decode cX5_advance 118 = .ok (.ldc 61, 2) := by decide +kernel
theorem dX5_advance_120 : decode cX5_advance 120 = .ok (.iload_n 1, 1) := by decide +kernel
theorem dX5_advance_121 : decode cX5_advance 121 = .ok (.invokevirtual 63, 3) := by decide +kernel
theorem dX5_advance_124 : decode cX5_advance 124 = .ok (.ifCond .lt 7, 3) := by decide +kernel
theorem dX5_advance_127 : decode cX5_advance 127 = .ok (.iload_n 1, 1) := by decide +kernel
theorem dX5_advance_128 : decode cX5_advance 128 = .ok (.goto 4, 3) := by decide +kernel
theorem dX5_advance_131 : decode cX5_advance 131 = .ok (.iconst 1, 1) := by decide +kernel
theorem dX5_advance_132 : decode cX5_advance 132 = .ok (.putfield 46, 3) := by decide +kernel
theorem dX5_advance_135 : decode cX5_advance 135 = .ok (.aload_n 0, 1) := by decide +kernel
theorem dX5_advance_136 : decode cX5_advance 136 = .ok (.dup, 1) := by decide +kernel
theorem dX5_advance_137 : decode cX5_advance 137 = .ok (.getfield 22, 3) := by decide +kernel
theorem dX5_advance_140 : decode cX5_advance 140 = .ok (.iconst 1, 1) := by decide +kernel
theorem dX5_advance_141 : decode cX5_advance 141 = .ok (.iadd, 1) := by decide +kernel
theorem dX5_advance_142 : decode cX5_advance 142 = .ok (.putfield 22, 3) := by decide +kernel
theorem dX5_advance_145 : decode cX5_advance 145 = .ok (.return_, 1) := by decide +kernel
noncomputable def FX5_advance (a0 : Nat) : PP Unit := bd (sW none) (fun (_ : Unit) => bd (sL a0 4 (0 : Int64)) (fun (_ : Unit) => bd (sI a0 5 (0 : Int32)) (fun (_ : Unit) => bd (it (fun (s1 : Unit) => (bd (gI a0 8) (fun x2 => bd (gI a0 1) (fun x3 => if x3 ≤ x2 then pu (Sum.inr ()) else bd (gI a0 8) (fun x4 => bd (aI (rf a0 0) 1000 x4) (fun x5 => bd (FX5_isBlank x5) (fun x6 => if ((b2i x6)) = 0 then pu (Sum.inr ()) else bd (gI a0 8) (fun x7 => bd (sI a0 8 (x7 + (1 : Int32))) (fun (_ : Unit) => pu (Sum.inl ())))))))) : PP ((Unit) ⊕ (Unit)))) FU ()) (fun (v8 : Unit) => bd (gI a0 8) (fun x9 => bd (sI a0 7 x9) (fun (_ : Unit) => bd (gI a0 8) (fun x10 => bd (gI a0 1) (fun x11 => if x10 < x11 then bd (gI a0 8) (fun x12 => bd (aI (rf a0 0) 1000 x12) (fun x13 => bd (FX5_isLetter x13) (fun x14 => bd (if ((b2i x14)) = 0 then bd (FX5_isDigit x13) (fun x15 => if ((b2i x15)) = 0 then bd (FJ0_indexOf_0f7a4 23 x13) (fun x16 => bd (if x16 < 0 then pu (1 : Int32) else pu x13 : PP (Int32)) (fun (v17 : Int32) => bd (sI a0 2 v17) (fun (_ : Unit) => bd (gI a0 8) (fun x18 => bd (sI a0 8 (x18 + (1 : Int32))) (fun (_ : Unit) => pu ()))))) else bd (FX5_readDigits a0) (fun (_ : Unit) => pu ())) else bd (FX5_readWord a0) (fun (_ : Unit) => pu ()) : PP (Unit)) (fun (v21 : Unit) => pu ())))) else bd (sI a0 2 (0 : Int32)) (fun (_ : Unit) => pu ())))))))))
set_option maxHeartbeats 4000000 in
set_option maxRecDepth 100000 in
theorem SX5_advance {l : Launch} {K : KK} {n : Nat} {hn : 270 ≤ n} (a0 : Nat) (h0 : ob a0 5) : CT l K n 7 mX5_advance [.ref (K.2.1 + a0)] enU (FX5_advance a0) := by
  refine CT.of2 (lv2 := [(0, .ref (K.2.1 + a0))]) (by decide) rfl hn (Nat.le_of_ble_eq_true rfl) rfl (rp_id ?_)
  unfold FX5_advance
  refine rp_aload_n 0 dX5_advance_0 rfl ?_
  refine rp_null dX5_advance_1 ?_
  refine rp_putW fi_X5_28 fp_X5_3 h0 rfl dX5_advance_2 ?_
  refine rp_aload_n 0 dX5_advance_5 rfl ?_
  refine rp_lconst (0 : Int64) dX5_advance_6 (by decide) ?_
  refine rp_putL fi_X5_32 fp_X5_4 h0 rfl dX5_advance_7 ?_
  refine rp_aload_n 0 dX5_advance_10 rfl ?_
  refine rp_iconst (0 : Int32) dX5_advance_11 (by decide) ?_
  refine rp_putI fi_X5_36 fp_X5_5 h0 rfl dX5_advance_12 ?_
  refine rp_as ?_
  refine rp_join 54 (fun v8 => [(0, .ref (K.2.1 + a0))]) (fun _ => []) (fun v8 => ?_) (fun hX15_0 => ?_)
  · refine rp_aload_n 0 dX5_advance_54 rfl ?_
    refine rp_aload_n 0 dX5_advance_55 rfl ?_
    refine rp_getI fi_X5_22 h0 rfl dX5_advance_56 (fun x9 => ?_)
    refine rp_putI fi_X5_43 fp_X5_7 h0 rfl dX5_advance_59 ?_
    refine rp_aload_n 0 dX5_advance_62 rfl ?_
    refine rp_getI fi_X5_22 h0 rfl dX5_advance_63 (fun x10 => ?_)
    refine rp_aload_n 0 dX5_advance_66 rfl ?_
    refine rp_getI fi_X5_15 h0 rfl dX5_advance_67 (fun x11 => ?_)
    refine rp_icmp_lt 79 dX5_advance_70 (by decide) ?_ ?_
    · refine rp_aload_n 0 dX5_advance_79 rfl ?_
      refine rp_getR fi_X5_9 h0 rfl dX5_advance_80 ?_
      refine rp_aload_n 0 dX5_advance_83 rfl ?_
      refine rp_getI fi_X5_22 h0 rfl dX5_advance_84 (fun x12 => ?_)
      refine rp_cald (tX5_0 h0) dX5_advance_87 (fun x13 => ?_)
      refine rp_istore_n [(1, .int x13), (0, .ref (K.2.1 + a0))] dX5_advance_88 (by decide) rfl ?_
      refine rp_iload_n 0 dX5_advance_89 rfl ?_
      refine rp_callSz [.int x13] (SX5_isLetter (hn := hn) x13) csX5_isLetter (mw (i := 449) (by decide +kernel)) (by omega) rfl rfl (Nat.le_of_ble_eq_true rfl) dX5_advance_90 (fun x14 => ?_)
      refine rp_as ?_
      refine rp_join 145 (fun (v21 : Unit) => []) (fun v21 => []) (fun v21 => ?_) (fun hJ145 => ?_)
      · exact rp_pu (rp_vret rfl dX5_advance_145)
      refine rp_if_eq 103 dX5_advance_93 (by decide) ?_ ?_
      · refine rp_iload_n 0 dX5_advance_103 rfl ?_
        refine rp_callSz [.int x13] (SX5_isDigit (hn := hn) x13) csX5_isDigit (mw (i := 511) (by decide +kernel)) (by omega) rfl rfl (Nat.le_of_ble_eq_true rfl) dX5_advance_104 (fun x15 => ?_)
        refine rp_if_eq 117 dX5_advance_107 (by decide) ?_ ?_
        · refine rp_aload_n 1 dX5_advance_117 rfl ?_
          refine rp_ldcS rfl dX5_advance_118 ?_
          refine rp_iload_n 0 dX5_advance_120 rfl ?_
          refine rp_callKi [.int x13] (SJ0_indexOf_0f7a4 (hn := hn) 23 x13 (by decide)) cvJ0_indexOf_0f7a4 (mw (i := 519) (by decide +kernel)) (by omega) (hO_S (by decide)) rfl rfl (Nat.le_of_ble_eq_true rfl) dX5_advance_121 (fun x16 => ?_)
          refine rp_as ?_
          refine rp_join 132 (fun (v17 : Int32) => [(0, .ref (K.2.1 + a0))]) (fun v17 => [.int v17, .ref (K.2.1 + a0)]) (fun v17 => ?_) (fun hJ132 => ?_)
          · refine rp_putI fi_X5_46 fp_X5_2 h0 rfl dX5_advance_132 ?_
            refine rp_aload_n 0 dX5_advance_135 rfl ?_
            refine rp_dup dX5_advance_136 rfl ?_
            refine rp_getI fi_X5_22 h0 rfl dX5_advance_137 (fun x18 => ?_)
            refine rp_iconst (1 : Int32) dX5_advance_140 (by decide) ?_
            refine rp_iadd dX5_advance_141 ?_
            refine rp_putI fi_X5_22 fp_X5_8 h0 rfl dX5_advance_142 ?_
            exact rp_sub [] rfl (rp_pu (hJ145 ()))
          refine rp_if_lt 131 dX5_advance_124 (by decide) ?_ ?_
          · refine rp_iconst (1 : Int32) dX5_advance_131 (by decide) ?_
            exact rp_sub [1] rfl (rp_pu (hJ132 (1 : Int32)))
          · refine rp_iload_n 0 dX5_advance_127 rfl ?_
            refine rp_goto 132 dX5_advance_128 (by decide) ?_
            exact rp_sub [1] rfl (rp_pu (hJ132 x13))
        · refine rp_aload_n 1 dX5_advance_110 rfl ?_
          refine rp_callVv [] (SX5_readDigits (hn := hn) a0 h0) cvX5_readDigits (mw (i := 514) (by decide +kernel)) (by omega) h0 (by decide) rfl rfl rfl (Nat.le_of_ble_eq_true rfl) dX5_advance_111 (fun x19 => ?_)
          refine rp_goto 145 dX5_advance_114 (by decide) ?_
          exact rp_sub [] rfl (rp_pu (hJ145 ()))
      · refine rp_aload_n 1 dX5_advance_96 rfl ?_
        refine rp_callVv [] (SX5_readWord (hn := hn) a0 h0) cvX5_readWord (mw (i := 452) (by decide +kernel)) (by omega) h0 (by decide) rfl rfl rfl (Nat.le_of_ble_eq_true rfl) dX5_advance_97 (fun x20 => ?_)
        refine rp_goto 145 dX5_advance_100 (by decide) ?_
        exact rp_sub [] rfl (rp_pu (hJ145 ()))
    · refine rp_aload_n 0 dX5_advance_73 rfl ?_
      refine rp_iconst (0 : Int32) dX5_advance_74 (by decide) ?_
      refine rp_putI fi_X5_46 fp_X5_2 h0 rfl dX5_advance_75 ?_
      exact rp_pu (rp_vret rfl dX5_advance_78)
  refine rp_sub [0] rfl (rp_it (fun (s1 : Unit) => [(0, .ref (K.2.1 + a0))]) (fun N15 ih15 s1 => ?_) FU ())
  refine rp_aload_n 0 dX5_advance_15 rfl ?_
  refine rp_getI fi_X5_22 h0 rfl dX5_advance_16 (fun x2 => ?_)
  refine rp_aload_n 0 dX5_advance_19 rfl ?_
  refine rp_getI fi_X5_15 h0 rfl dX5_advance_20 (fun x3 => ?_)
  refine rp_icmp_ge 54 dX5_advance_23 (by decide) ?_ ?_
  · exact rp_sub [0] rfl (rp_puR (hX15_0 ()))
  · refine rp_aload_n 0 dX5_advance_26 rfl ?_
    refine rp_getR fi_X5_9 h0 rfl dX5_advance_27 ?_
    refine rp_aload_n 0 dX5_advance_30 rfl ?_
    refine rp_getI fi_X5_22 h0 rfl dX5_advance_31 (fun x4 => ?_)
    refine rp_cald (tX5_0 h0) dX5_advance_34 (fun x5 => ?_)
    refine rp_callSz [.int x5] (SX5_isBlank (hn := hn) x5) csX5_isBlank (mw (i := 446) (by decide +kernel)) (by omega) rfl rfl (Nat.le_of_ble_eq_true rfl) dX5_advance_35 (fun x6 => ?_)
    refine rp_if_eq 54 dX5_advance_38 (by decide) ?_ ?_
    · exact rp_sub [0] rfl (rp_puR (hX15_0 ()))
    · refine rp_aload_n 0 dX5_advance_41 rfl ?_
      refine rp_dup dX5_advance_42 rfl ?_
      refine rp_getI fi_X5_22 h0 rfl dX5_advance_43 (fun x7 => ?_)
      refine rp_iconst (1 : Int32) dX5_advance_46 (by decide) ?_
      refine rp_iadd dX5_advance_47 ?_
      refine rp_putI fi_X5_22 fp_X5_8 h0 rfl dX5_advance_48 ?_
      refine rp_goto 15 dX5_advance_51 (by decide) ?_
      exact rp_sub [0] rfl (ih15 ())

theorem dX0_readProduct_0 : decode cX0_readProduct 0 = .ok (.aload_n 0, 1) := by decide +kernel
theorem dX0_readProduct_1 : decode cX0_readProduct 1 = .ok (.aload_n 1, 1) := by decide +kernel
theorem dX0_readProduct_2 : decode cX0_readProduct 2 = .ok (.iload_n 2, 1) := by decide +kernel
theorem dX0_readProduct_3 : decode cX0_readProduct 3 = .ok (.invokevirtual 62, 3) := by decide +kernel
theorem dX0_readProduct_6 : decode cX0_readProduct 6 = .ok (.iconst 0, 1) := by decide +kernel
theorem dX0_readProduct_7 : decode cX0_readProduct 7 = .ok (.istore_n 3, 1) := by decide +kernel
theorem dX0_readProduct_8 : decode cX0_readProduct 8 = .ok (.iload_n 3, 1) := by decide +kernel
theorem dX0_readProduct_9 : decode cX0_readProduct 9 = .ok (.sipush 1000, 3) := by decide +kernel
theorem dX0_readProduct_12 : decode cX0_readProduct 12 = .ok (.if_icmp .ge 34, 3) := by decide +kernel
theorem dX0_readProduct_15 : decode cX0_readProduct 15 = .ok (.aload_n 1, 1) := by decide +kernel
theorem dX0_readProduct_16 : decode cX0_readProduct 16 = .ok (.getfield 56, 3) := by decide +kernel
theorem dX0_readProduct_19 : decode cX0_readProduct 19 = .ok (.bipush 42, 2) := by decide +kernel
theorem dX0_readProduct_21 : decode cX0_readProduct 21 = .ok (.if_icmp .ne 25, 3) := by decide +kernel
theorem dX0_readProduct_24 : decode cX0_readProduct 24 = .ok (.aload_n 1, 1) := by decide +kernel
theorem dX0_readProduct_25 : decode cX0_readProduct 25 = .ok (.invokevirtual 50, 3) := by decide +kernel
theorem dX0_readProduct_28 : decode cX0_readProduct 28 = .ok (.aload_n 0, 1) := by decide +kernel
theorem dX0_readProduct_29 : decode cX0_readProduct 29 = .ok (.aload_n 1, 1) := by decide +kernel
theorem dX0_readProduct_30 : decode cX0_readProduct 30 = .ok (.iload_n 2, 1) := by decide +kernel
theorem dX0_readProduct_31 : decode cX0_readProduct 31 = .ok (.invokevirtual 62, 3) := by decide +kernel
theorem dX0_readProduct_34 : decode cX0_readProduct 34 = .ok (.aload_n 0, 1) := by decide +kernel
theorem dX0_readProduct_35 : decode cX0_readProduct 35 = .ok (.bipush (-12), 2) := by decide +kernel
theorem dX0_readProduct_37 : decode cX0_readProduct 37 = .ok (.invokevirtual 28, 3) := by decide +kernel
theorem dX0_readProduct_40 : decode cX0_readProduct 40 = .ok (.iinc 3 1, 3) := by decide +kernel
theorem dX0_readProduct_43 : decode cX0_readProduct 43 = .ok (.goto (-35), 3) := by decide +kernel
theorem dX0_readProduct_46 : decode cX0_readProduct 46 = .ok (.return_, 1) := by decide +kernel
noncomputable def FX0_readProduct (self : Nat → Nat → Int32 → PP Unit) (a0 : Nat) (p1 : Nat) (p2 : Int32) : PP Unit := bd (self a0 p1 p2) (fun (_ : Unit) => bd (it (fun (s2 : Int32) => (if (1000 : Int32) ≤ s2 then pu (Sum.inr ()) else bd (gI p1 2) (fun x3 => if x3 = (42 : Int32) then bd (FX5_advance p1) (fun (_ : Unit) => bd (self a0 p1 p2) (fun (_ : Unit) => bd (FX0_addStep a0 (-12 : Int32)) (fun (_ : Unit) => lt (s2 + (1 : Int32)) (fun y7 => pu (Sum.inl y7))))) else pu (Sum.inr ())) : PP ((Int32) ⊕ (Unit)))) FU (0 : Int32)) (fun (v8 : Unit) => pu ()))
set_option maxHeartbeats 4000000 in
set_option maxRecDepth 100000 in
theorem SX0_readProduct {l : Launch} {K : KK} {n : Nat} {dp : Nat} {self : Nat → Nat → Int32 → PP Unit} {hn : 270 ≤ n} (hs : ∀ (a0 : Nat) (p1 : Nat) (p2 : Int32), ob a0 0 → ob p1 5 → CT l K n dp mX0_readPart [.ref (K.2.1 + a0), .ref (K.2.1 + p1), .int p2] enU (self a0 p1 p2)) (a0 : Nat) (p1 : Nat) (p2 : Int32) (h0 : ob a0 0) (h_p1 : ob p1 5) : CT l K n (dp + 8) mX0_readProduct [.ref (K.2.1 + a0), .ref (K.2.1 + p1), .int p2] enU (FX0_readProduct self a0 p1 p2) := by
  refine CT.of2 (lv2 := [(0, .ref (K.2.1 + a0)), (1, .ref (K.2.1 + p1)), (2, .int p2)]) (by decide) rfl hn (Nat.le_of_ble_eq_true rfl) rfl (rp_id ?_)
  unfold FX0_readProduct
  refine rp_aload_n 0 dX0_readProduct_0 rfl ?_
  refine rp_aload_n 1 dX0_readProduct_1 rfl ?_
  refine rp_iload_n 2 dX0_readProduct_2 rfl ?_
  refine rp_callVv [.ref (K.2.1 + p1), .int p2] (hs a0 p1 p2 h0 h_p1) cvX0_readPart (mw (i := 702) (by decide +kernel)) (by omega) h0 (by decide) rfl rfl rfl (Nat.le_of_ble_eq_true rfl) dX0_readProduct_3 (fun x1 => ?_)
  refine rp_iconst (0 : Int32) dX0_readProduct_6 (by decide) ?_
  refine rp_istore_n [(3, .int (0 : Int32)), (0, .ref (K.2.1 + a0)), (1, .ref (K.2.1 + p1)), (2, .int p2)] dX0_readProduct_7 (by decide) rfl ?_
  refine rp_as ?_
  refine rp_join 46 (fun v8 => []) (fun _ => []) (fun v8 => ?_) (fun hX8_0 => ?_)
  · exact rp_pu (rp_vret rfl dX0_readProduct_46)
  refine rp_sub [1, 2, 3, 0] rfl (rp_it (fun (s2 : Int32) => [(0, .ref (K.2.1 + a0)), (1, .ref (K.2.1 + p1)), (2, .int p2), (3, .int s2)]) (fun N8 ih8 s2 => ?_) FU (0 : Int32))
  refine rp_iload_n 3 dX0_readProduct_8 rfl ?_
  refine rp_sipush (1000 : Int32) dX0_readProduct_9 (by decide) ?_
  refine rp_icmp_ge 46 dX0_readProduct_12 (by decide) ?_ ?_
  · exact rp_sub [] rfl (rp_puR (hX8_0 ()))
  · refine rp_aload_n 1 dX0_readProduct_15 rfl ?_
    refine rp_getI fi_X0_56 h_p1 rfl dX0_readProduct_16 (fun x3 => ?_)
    refine rp_bipush (42 : Int32) dX0_readProduct_19 (by decide) ?_
    refine rp_icmp_ne 46 dX0_readProduct_21 (by decide) ?_ ?_
    · exact rp_sub [] rfl (rp_puR (hX8_0 ()))
    · refine rp_aload_n 1 dX0_readProduct_24 rfl ?_
      refine rp_callVv [] (SX5_advance (hn := hn) p1 h_p1) cvX5_advance (mw (i := 709) (by decide +kernel)) (by omega) h_p1 (by decide) rfl rfl rfl (Nat.le_of_ble_eq_true rfl) dX0_readProduct_25 (fun x4 => ?_)
      refine rp_aload_n 0 dX0_readProduct_28 rfl ?_
      refine rp_aload_n 1 dX0_readProduct_29 rfl ?_
      refine rp_iload_n 2 dX0_readProduct_30 rfl ?_
      refine rp_callVv [.ref (K.2.1 + p1), .int p2] (hs a0 p1 p2 h0 h_p1) cvX0_readPart (mw (i := 702) (by decide +kernel)) (by omega) h0 (by decide) rfl rfl rfl (Nat.le_of_ble_eq_true rfl) dX0_readProduct_31 (fun x5 => ?_)
      refine rp_aload_n 0 dX0_readProduct_34 rfl ?_
      refine rp_bipush (-12 : Int32) dX0_readProduct_35 (by decide) ?_
      refine rp_callVv [.int (-12 : Int32)] (SX0_addStep (hn := hn) a0 (-12 : Int32) h0) cvX0_addStep (mw (i := 434) (by decide +kernel)) (by omega) h0 (by decide) rfl rfl rfl (Nat.le_of_ble_eq_true rfl) dX0_readProduct_37 (fun x6 => ?_)
      refine rp_iinc (fun y7 => [(3, .int y7), (0, .ref (K.2.1 + a0)), (1, .ref (K.2.1 + p1)), (2, .int p2)]) 3 dX0_readProduct_40 rfl (by rfl) (by decide) (fun y7 => rfl) (fun y7 => ?_)
      refine rp_goto 8 dX0_readProduct_43 (by decide) ?_
      exact rp_sub [1, 2, 3, 0] rfl (ih8 y7)

theorem dX0_readSum_0 : decode cX0_readSum 0 = .ok (.aload_n 0, 1) := by decide +kernel
theorem dX0_readSum_1 : decode cX0_readSum 1 = .ok (.aload_n 1, 1) := by decide +kernel
theorem dX0_readSum_2 : decode cX0_readSum 2 = .ok (.iload_n 2, 1) := by decide +kernel
theorem dX0_readSum_3 : decode cX0_readSum 3 = .ok (.invokevirtual 59, 3) := by decide +kernel
theorem dX0_readSum_6 : decode cX0_readSum 6 = .ok (.iconst 0, 1) := by decide +kernel
theorem dX0_readSum_7 : decode cX0_readSum 7 = .ok (.istore_n 3, 1) := by decide +kernel
theorem dX0_readSum_8 : decode cX0_readSum 8 = .ok (.iload_n 3, 1) := by decide +kernel
theorem dX0_readSum_9 : decode cX0_readSum 9 = .ok (.sipush 1000, 3) := by decide +kernel
theorem dX0_readSum_12 : decode cX0_readSum 12 = .ok (.if_icmp .ge 61, 3) := by decide +kernel
theorem dX0_readSum_15 : decode cX0_readSum 15 = .ok (.aload_n 1, 1) := by decide +kernel
theorem dX0_readSum_16 : decode cX0_readSum 16 = .ok (.getfield 56, 3) := by decide +kernel
theorem dX0_readSum_19 : decode cX0_readSum 19 = .ok (.bipush 43, 2) := by decide +kernel
theorem dX0_readSum_21 : decode cX0_readSum 21 = .ok (.if_icmp .eq 12, 3) := by decide +kernel
theorem dX0_readSum_24 : decode cX0_readSum 24 = .ok (.aload_n 1, 1) := by decide +kernel
theorem dX0_readSum_25 : decode cX0_readSum 25 = .ok (.getfield 56, 3) := by decide +kernel
theorem dX0_readSum_28 : decode cX0_readSum 28 = .ok (.bipush 45, 2) := by decide +kernel
theorem dX0_readSum_30 : decode cX0_readSum 30 = .ok (.if_icmp .ne 43, 3) := by decide +kernel
theorem dX0_readSum_33 : decode cX0_readSum 33 = .ok (.aload_n 1, 1) := by decide +kernel
theorem dX0_readSum_34 : decode cX0_readSum 34 = .ok (.getfield 56, 3) := by decide +kernel
theorem dX0_readSum_37 : decode cX0_readSum 37 = .ok (.bipush 43, 2) := by decide +kernel
theorem dX0_readSum_39 : decode cX0_readSum 39 = .ok (.if_icmp .ne 8, 3) := by decide +kernel
theorem dX0_readSum_42 : decode cX0_readSum 42 = .ok (.bipush (-10), 2) := by decide +kernel
theorem dX0_readSum_44 : decode cX0_readSum 44 = .ok (.goto 5, 3) := by decide +kernel
theorem dX0_readSum_47 : decode cX0_readSum 47 = .ok (.bipush (-11), 2) := by decide +kernel
theorem dX0_readSum_49 : decode cX0_readSum 49 = .ok (.istore 4, 2) := by decide +kernel
theorem dX0_readSum_51 : decode cX0_readSum 51 = .ok (.aload_n 1, 1) := by decide +kernel
theorem dX0_readSum_52 : decode cX0_readSum 52 = .ok (.invokevirtual 50, 3) := by decide +kernel
theorem dX0_readSum_55 : decode cX0_readSum 55 = .ok (.aload_n 0, 1) := by decide +kernel
theorem dX0_readSum_56 : decode cX0_readSum 56 = .ok (.aload_n 1, 1) := by decide +kernel
theorem dX0_readSum_57 : decode cX0_readSum 57 = .ok (.iload_n 2, 1) := by decide +kernel
theorem dX0_readSum_58 : decode cX0_readSum 58 = .ok (.invokevirtual 59, 3) := by decide +kernel
theorem dX0_readSum_61 : decode cX0_readSum 61 = .ok (.aload_n 0, 1) := by decide +kernel
theorem dX0_readSum_62 : decode cX0_readSum 62 = .ok (.iload 4, 2) := by decide +kernel
theorem dX0_readSum_64 : decode cX0_readSum 64 = .ok (.invokevirtual 28, 3) := by decide +kernel
theorem dX0_readSum_67 : decode cX0_readSum 67 = .ok (.iinc 3 1, 3) := by decide +kernel
theorem dX0_readSum_70 : decode cX0_readSum 70 = .ok (.goto (-62), 3) := by decide +kernel
theorem dX0_readSum_73 : decode cX0_readSum 73 = .ok (.return_, 1) := by decide +kernel
noncomputable def FX0_readSum (self : Nat → Nat → Int32 → PP Unit) (a0 : Nat) (p1 : Nat) (p2 : Int32) : PP Unit := bd (FX0_readProduct self a0 p1 p2) (fun (_ : Unit) => bd (it (fun (s2 : Int32) => (if (1000 : Int32) ≤ s2 then pu (Sum.inr ()) else bd (gI p1 2) (fun x3 => jn (fun (v6 : Unit) => bd (gI p1 2) (fun x7 => bd (if x7 = (43 : Int32) then pu (-10 : Int32) else pu (-11 : Int32) : PP (Int32)) (fun (v8 : Int32) => bd (FX5_advance p1) (fun (_ : Unit) => bd (FX0_readProduct self a0 p1 p2) (fun (_ : Unit) => bd (FX0_addStep a0 v8) (fun (_ : Unit) => lt (s2 + (1 : Int32)) (fun y12 => pu (Sum.inl y12)))))))) (fun j4 => if x3 = (43 : Int32) then j4 () else bd (gI p1 2) (fun x5 => if x5 = (45 : Int32) then j4 () else pu (Sum.inr ())))) : PP ((Int32) ⊕ (Unit)))) FU (0 : Int32)) (fun (v13 : Unit) => pu ()))
set_option maxHeartbeats 4000000 in
set_option maxRecDepth 100000 in
theorem SX0_readSum {l : Launch} {K : KK} {n : Nat} {dp : Nat} {self : Nat → Nat → Int32 → PP Unit} {hn : 270 ≤ n} (hs : ∀ (a0 : Nat) (p1 : Nat) (p2 : Int32), ob a0 0 → ob p1 5 → CT l K n dp mX0_readPart [.ref (K.2.1 + a0), .ref (K.2.1 + p1), .int p2] enU (self a0 p1 p2)) (a0 : Nat) (p1 : Nat) (p2 : Int32) (h0 : ob a0 0) (h_p1 : ob p1 5) : CT l K n (dp + 9) mX0_readSum [.ref (K.2.1 + a0), .ref (K.2.1 + p1), .int p2] enU (FX0_readSum self a0 p1 p2) := by
  refine CT.of2 (lv2 := [(0, .ref (K.2.1 + a0)), (1, .ref (K.2.1 + p1)), (2, .int p2)]) (by decide) rfl hn (Nat.le_of_ble_eq_true rfl) rfl (rp_id ?_)
  unfold FX0_readSum
  refine rp_aload_n 0 dX0_readSum_0 rfl ?_
  refine rp_aload_n 1 dX0_readSum_1 rfl ?_
  refine rp_iload_n 2 dX0_readSum_2 rfl ?_
  refine rp_callVv [.ref (K.2.1 + p1), .int p2] (SX0_readProduct (hn := hn) hs a0 p1 p2 h0 h_p1) cvX0_readProduct (mw (i := 698) (by decide +kernel)) (by omega) h0 (by decide) rfl rfl rfl (Nat.le_of_ble_eq_true rfl) dX0_readSum_3 (fun x1 => ?_)
  refine rp_iconst (0 : Int32) dX0_readSum_6 (by decide) ?_
  refine rp_istore_n [(3, .int (0 : Int32)), (0, .ref (K.2.1 + a0)), (1, .ref (K.2.1 + p1)), (2, .int p2)] dX0_readSum_7 (by decide) rfl ?_
  refine rp_as ?_
  refine rp_join 73 (fun v13 => []) (fun _ => []) (fun v13 => ?_) (fun hX8_0 => ?_)
  · exact rp_pu (rp_vret rfl dX0_readSum_73)
  refine rp_sub [1, 2, 3, 0] rfl (rp_it (fun (s2 : Int32) => [(0, .ref (K.2.1 + a0)), (1, .ref (K.2.1 + p1)), (2, .int p2), (3, .int s2)]) (fun N8 ih8 s2 => ?_) FU (0 : Int32))
  refine rp_iload_n 3 dX0_readSum_8 rfl ?_
  refine rp_sipush (1000 : Int32) dX0_readSum_9 (by decide) ?_
  refine rp_icmp_ge 73 dX0_readSum_12 (by decide) ?_ ?_
  · exact rp_sub [] rfl (rp_puR (hX8_0 ()))
  · refine rp_aload_n 1 dX0_readSum_15 rfl ?_
    refine rp_getI fi_X0_56 h_p1 rfl dX0_readSum_16 (fun x3 => ?_)
    refine rp_bipush (43 : Int32) dX0_readSum_19 (by decide) ?_
    refine rp_jn2 33 (fun (v6 : Unit) => [(0, .ref (K.2.1 + a0)), (1, .ref (K.2.1 + p1)), (2, .int p2), (3, .int s2)]) (fun v6 => []) (fun v6 => ?_) (fun hK33 => ?_)
    · refine rp_aload_n 1 dX0_readSum_33 rfl ?_
      refine rp_getI fi_X0_56 h_p1 rfl dX0_readSum_34 (fun x7 => ?_)
      refine rp_bipush (43 : Int32) dX0_readSum_37 (by decide) ?_
      refine rp_as ?_
      refine rp_join 49 (fun (v8 : Int32) => [(0, .ref (K.2.1 + a0)), (1, .ref (K.2.1 + p1)), (2, .int p2), (3, .int s2)]) (fun v8 => [.int v8]) (fun v8 => ?_) (fun hJ49 => ?_)
      · refine rp_istore [(4, .int v8), (0, .ref (K.2.1 + a0)), (1, .ref (K.2.1 + p1)), (2, .int p2), (3, .int s2)] dX0_readSum_49 (by decide) rfl ?_
        refine rp_aload_n 2 dX0_readSum_51 rfl ?_
        refine rp_callVv [] (SX5_advance (hn := hn) p1 h_p1) cvX5_advance (mw (i := 709) (by decide +kernel)) (by omega) h_p1 (by decide) rfl rfl rfl (Nat.le_of_ble_eq_true rfl) dX0_readSum_52 (fun x9 => ?_)
        refine rp_aload_n 1 dX0_readSum_55 rfl ?_
        refine rp_aload_n 2 dX0_readSum_56 rfl ?_
        refine rp_iload_n 3 dX0_readSum_57 rfl ?_
        refine rp_callVv [.ref (K.2.1 + p1), .int p2] (SX0_readProduct (hn := hn) hs a0 p1 p2 h0 h_p1) cvX0_readProduct (mw (i := 698) (by decide +kernel)) (by omega) h0 (by decide) rfl rfl rfl (Nat.le_of_ble_eq_true rfl) dX0_readSum_58 (fun x10 => ?_)
        refine rp_aload_n 1 dX0_readSum_61 rfl ?_
        refine rp_iload 0 dX0_readSum_62 rfl ?_
        refine rp_callVv [.int v8] (SX0_addStep (hn := hn) a0 v8 h0) cvX0_addStep (mw (i := 434) (by decide +kernel)) (by omega) h0 (by decide) rfl rfl rfl (Nat.le_of_ble_eq_true rfl) dX0_readSum_64 (fun x11 => ?_)
        refine rp_iinc (fun y12 => [(3, .int y12), (4, .int v8), (0, .ref (K.2.1 + a0)), (1, .ref (K.2.1 + p1)), (2, .int p2)]) 4 dX0_readSum_67 rfl (by rfl) (by decide) (fun y12 => rfl) (fun y12 => ?_)
        refine rp_goto 8 dX0_readSum_70 (by decide) ?_
        exact rp_sub [2, 3, 4, 0] rfl (ih8 y12)
      refine rp_icmp_ne 47 dX0_readSum_39 (by decide) ?_ ?_
      · refine rp_bipush (-11 : Int32) dX0_readSum_47 (by decide) ?_
        exact rp_sub [0, 1, 2, 3] rfl (rp_pu (hJ49 (-11 : Int32)))
      · refine rp_bipush (-10 : Int32) dX0_readSum_42 (by decide) ?_
        refine rp_goto 49 dX0_readSum_44 (by decide) ?_
        exact rp_sub [0, 1, 2, 3] rfl (rp_pu (hJ49 (-10 : Int32)))
    refine rp_icmp_eq 33 dX0_readSum_21 (by decide) ?_ ?_
    · exact rp_sub [0, 1, 2, 3] rfl (hK33 ())
    · refine rp_aload_n 1 dX0_readSum_24 rfl ?_
      refine rp_getI fi_X0_56 h_p1 rfl dX0_readSum_25 (fun x5 => ?_)
      refine rp_bipush (45 : Int32) dX0_readSum_28 (by decide) ?_
      refine rp_icmp_ne 73 dX0_readSum_30 (by decide) ?_ ?_
      · exact rp_sub [] rfl (rp_puR (hX8_0 ()))
      · exact rp_sub [0, 1, 2, 3] rfl (hK33 ())

theorem dX0_readTest_0 : decode cX0_readTest 0 = .ok (.aload_n 0, 1) := by decide +kernel
theorem dX0_readTest_1 : decode cX0_readTest 1 = .ok (.aload_n 1, 1) := by decide +kernel
theorem dX0_readTest_2 : decode cX0_readTest 2 = .ok (.iload_n 2, 1) := by decide +kernel
theorem dX0_readTest_3 : decode cX0_readTest 3 = .ok (.invokevirtual 53, 3) := by decide +kernel
theorem dX0_readTest_6 : decode cX0_readTest 6 = .ok (.aload_n 1, 1) := by decide +kernel
theorem dX0_readTest_7 : decode cX0_readTest 7 = .ok (.getfield 56, 3) := by decide +kernel
theorem dX0_readTest_10 : decode cX0_readTest 10 = .ok (.bipush 60, 2) := by decide +kernel
theorem dX0_readTest_12 : decode cX0_readTest 12 = .ok (.if_icmp .eq 12, 3) := by decide +kernel
theorem dX0_readTest_15 : decode cX0_readTest 15 = .ok (.aload_n 1, 1) := by decide +kernel
theorem dX0_readTest_16 : decode cX0_readTest 16 = .ok (.getfield 56, 3) := by decide +kernel
theorem dX0_readTest_19 : decode cX0_readTest 19 = .ok (.bipush 61, 2) := by decide +kernel
theorem dX0_readTest_21 : decode cX0_readTest 21 = .ok (.if_icmp .ne 35, 3) := by decide +kernel
theorem dX0_readTest_24 : decode cX0_readTest 24 = .ok (.aload_n 1, 1) := by decide +kernel
theorem dX0_readTest_25 : decode cX0_readTest 25 = .ok (.getfield 56, 3) := by decide +kernel
theorem dX0_readTest_28 : decode cX0_readTest 28 = .ok (.bipush 60, 2) := by decide +kernel
theorem dX0_readTest_30 : decode cX0_readTest 30 = .ok (.if_icmp .ne 8, 3) := by decide +kernel
theorem dX0_readTest_33 : decode cX0_readTest 33 = .ok (.bipush (-8), 2) := by decide +kernel
theorem dX0_readTest_35 : decode cX0_readTest 35 = .ok (.goto 5, 3) := by decide +kernel
theorem dX0_readTest_38 : decode cX0_readTest 38 = .ok (.bipush (-9), 2) := by decide +kernel
theorem dX0_readTest_40 : decode cX0_readTest 40 = .ok (.istore_n 3, 1) := by decide +kernel
theorem dX0_readTest_41 : decode cX0_readTest 41 = .ok (.aload_n 1, 1) := by decide +kernel
theorem dX0_readTest_42 : decode cX0_readTest 42 = .ok (.invokevirtual 50, 3) := by decide +kernel
theorem dX0_readTest_45 : decode cX0_readTest 45 = .ok (.aload_n 0, 1) := by decide +kernel
theorem dX0_readTest_46 : decode cX0_readTest 46 = .ok (.aload_n 1, 1) := by decide +kernel
theorem dX0_readTest_47 : decode cX0_readTest 47 = .ok (.iload_n 2, 1) := by decide +kernel
theorem dX0_readTest_48 : decode cX0_readTest 48 = .ok (.invokevirtual 53, 3) := by decide +kernel
theorem dX0_readTest_51 : decode cX0_readTest 51 = .ok (.aload_n 0, 1) := by decide +kernel
theorem dX0_readTest_52 : decode cX0_readTest 52 = .ok (.iload_n 3, 1) := by decide +kernel
theorem dX0_readTest_53 : decode cX0_readTest 53 = .ok (.invokevirtual 28, 3) := by decide +kernel
theorem dX0_readTest_56 : decode cX0_readTest 56 = .ok (.return_, 1) := by decide +kernel
noncomputable def FX0_readTest (self : Nat → Nat → Int32 → PP Unit) (a0 : Nat) (p1 : Nat) (p2 : Int32) : PP Unit := bd (FX0_readSum self a0 p1 p2) (fun (_ : Unit) => bd (gI p1 2) (fun x2 => bd (jn (fun (v5 : Unit) => bd (gI p1 2) (fun x6 => bd (if x6 = (60 : Int32) then pu (-8 : Int32) else pu (-9 : Int32) : PP (Int32)) (fun (v7 : Int32) => bd (FX5_advance p1) (fun (_ : Unit) => bd (FX0_readSum self a0 p1 p2) (fun (_ : Unit) => bd (FX0_addStep a0 v7) (fun (_ : Unit) => pu ())))))) (fun j3 => if x2 = (60 : Int32) then j3 () else bd (gI p1 2) (fun x4 => if x4 = (61 : Int32) then j3 () else pu ())) : PP (Unit)) (fun (v11 : Unit) => pu ())))
set_option maxHeartbeats 4000000 in
set_option maxRecDepth 100000 in
theorem SX0_readTest {l : Launch} {K : KK} {n : Nat} {dp : Nat} {self : Nat → Nat → Int32 → PP Unit} {hn : 270 ≤ n} (hs : ∀ (a0 : Nat) (p1 : Nat) (p2 : Int32), ob a0 0 → ob p1 5 → CT l K n dp mX0_readPart [.ref (K.2.1 + a0), .ref (K.2.1 + p1), .int p2] enU (self a0 p1 p2)) (a0 : Nat) (p1 : Nat) (p2 : Int32) (h0 : ob a0 0) (h_p1 : ob p1 5) : CT l K n (dp + 10) mX0_readTest [.ref (K.2.1 + a0), .ref (K.2.1 + p1), .int p2] enU (FX0_readTest self a0 p1 p2) := by
  refine CT.of2 (lv2 := [(0, .ref (K.2.1 + a0)), (1, .ref (K.2.1 + p1)), (2, .int p2)]) (by decide) rfl hn (Nat.le_of_ble_eq_true rfl) rfl (rp_id ?_)
  unfold FX0_readTest
  refine rp_aload_n 0 dX0_readTest_0 rfl ?_
  refine rp_aload_n 1 dX0_readTest_1 rfl ?_
  refine rp_iload_n 2 dX0_readTest_2 rfl ?_
  refine rp_callVv [.ref (K.2.1 + p1), .int p2] (SX0_readSum (hn := hn) hs a0 p1 p2 h0 h_p1) cvX0_readSum (mw (i := 694) (by decide +kernel)) (by omega) h0 (by decide) rfl rfl rfl (Nat.le_of_ble_eq_true rfl) dX0_readTest_3 (fun x1 => ?_)
  refine rp_aload_n 1 dX0_readTest_6 rfl ?_
  refine rp_getI fi_X0_56 h_p1 rfl dX0_readTest_7 (fun x2 => ?_)
  refine rp_bipush (60 : Int32) dX0_readTest_10 (by decide) ?_
  refine rp_as ?_
  refine rp_join 56 (fun (v11 : Unit) => []) (fun v11 => []) (fun v11 => ?_) (fun hJ56 => ?_)
  · exact rp_pu (rp_vret rfl dX0_readTest_56)
  refine rp_jn2 24 (fun (v5 : Unit) => [(0, .ref (K.2.1 + a0)), (1, .ref (K.2.1 + p1)), (2, .int p2)]) (fun v5 => []) (fun v5 => ?_) (fun hK24 => ?_)
  · refine rp_aload_n 1 dX0_readTest_24 rfl ?_
    refine rp_getI fi_X0_56 h_p1 rfl dX0_readTest_25 (fun x6 => ?_)
    refine rp_bipush (60 : Int32) dX0_readTest_28 (by decide) ?_
    refine rp_as ?_
    refine rp_join 40 (fun (v7 : Int32) => [(0, .ref (K.2.1 + a0)), (1, .ref (K.2.1 + p1)), (2, .int p2)]) (fun v7 => [.int v7]) (fun v7 => ?_) (fun hJ40 => ?_)
    · refine rp_istore_n [(3, .int v7), (0, .ref (K.2.1 + a0)), (1, .ref (K.2.1 + p1)), (2, .int p2)] dX0_readTest_40 (by decide) rfl ?_
      refine rp_aload_n 2 dX0_readTest_41 rfl ?_
      refine rp_callVv [] (SX5_advance (hn := hn) p1 h_p1) cvX5_advance (mw (i := 709) (by decide +kernel)) (by omega) h_p1 (by decide) rfl rfl rfl (Nat.le_of_ble_eq_true rfl) dX0_readTest_42 (fun x8 => ?_)
      refine rp_aload_n 1 dX0_readTest_45 rfl ?_
      refine rp_aload_n 2 dX0_readTest_46 rfl ?_
      refine rp_iload_n 3 dX0_readTest_47 rfl ?_
      refine rp_callVv [.ref (K.2.1 + p1), .int p2] (SX0_readSum (hn := hn) hs a0 p1 p2 h0 h_p1) cvX0_readSum (mw (i := 694) (by decide +kernel)) (by omega) h0 (by decide) rfl rfl rfl (Nat.le_of_ble_eq_true rfl) dX0_readTest_48 (fun x9 => ?_)
      refine rp_aload_n 1 dX0_readTest_51 rfl ?_
      refine rp_iload_n 0 dX0_readTest_52 rfl ?_
      refine rp_callVv [.int v7] (SX0_addStep (hn := hn) a0 v7 h0) cvX0_addStep (mw (i := 434) (by decide +kernel)) (by omega) h0 (by decide) rfl rfl rfl (Nat.le_of_ble_eq_true rfl) dX0_readTest_53 (fun x10 => ?_)
      exact rp_sub [] rfl (rp_pu (hJ56 ()))
    refine rp_icmp_ne 38 dX0_readTest_30 (by decide) ?_ ?_
    · refine rp_bipush (-9 : Int32) dX0_readTest_38 (by decide) ?_
      exact rp_sub [0, 1, 2] rfl (rp_pu (hJ40 (-9 : Int32)))
    · refine rp_bipush (-8 : Int32) dX0_readTest_33 (by decide) ?_
      refine rp_goto 40 dX0_readTest_35 (by decide) ?_
      exact rp_sub [0, 1, 2] rfl (rp_pu (hJ40 (-8 : Int32)))
  refine rp_icmp_eq 24 dX0_readTest_12 (by decide) ?_ ?_
  · exact rp_sub [0, 1, 2] rfl (hK24 ())
  · refine rp_aload_n 1 dX0_readTest_15 rfl ?_
    refine rp_getI fi_X0_56 h_p1 rfl dX0_readTest_16 (fun x4 => ?_)
    refine rp_bipush (61 : Int32) dX0_readTest_19 (by decide) ?_
    refine rp_icmp_ne 56 dX0_readTest_21 (by decide) ?_ ?_
    · exact rp_sub [] rfl (rp_pu (hJ56 ()))
    · exact rp_sub [0, 1, 2] rfl (hK24 ())

theorem dX0_readWhole_0 : decode cX0_readWhole 0 = .ok (.aload_n 0, 1) := by decide +kernel
theorem dX0_readWhole_1 : decode cX0_readWhole 1 = .ok (.aload_n 1, 1) := by decide +kernel
theorem dX0_readWhole_2 : decode cX0_readWhole 2 = .ok (.iload_n 2, 1) := by decide +kernel
theorem dX0_readWhole_3 : decode cX0_readWhole 3 = .ok (.invokevirtual 32, 3) := by decide +kernel
theorem dX0_readWhole_6 : decode cX0_readWhole 6 = .ok (.iconst 0, 1) := by decide +kernel
theorem dX0_readWhole_7 : decode cX0_readWhole 7 = .ok (.istore_n 3, 1) := by decide +kernel
theorem dX0_readWhole_8 : decode cX0_readWhole 8 = .ok (.iload_n 3, 1) := by decide +kernel
theorem dX0_readWhole_9 : decode cX0_readWhole 9 = .ok (.sipush 1000, 3) := by decide +kernel
theorem dX0_readWhole_12 : decode cX0_readWhole 12 = .ok (.if_icmp .ge 64, 3) := by decide +kernel
theorem dX0_readWhole_15 : decode cX0_readWhole 15 = .ok (.aload_n 1, 1) := by decide +kernel
theorem dX0_readWhole_16 : decode cX0_readWhole 16 = .ok (.getfield 36, 3) := by decide +kernel
theorem dX0_readWhole_19 : decode cX0_readWhole 19 = .ok (.getstatic 42, 3) := by decide +kernel
theorem dX0_readWhole_22 : decode cX0_readWhole 22 = .ok (.if_acmp .eq 13, 3) := by decide +kernel
theorem dX0_readWhole_25 : decode cX0_readWhole 25 = .ok (.aload_n 1, 1) := by decide +kernel
theorem dX0_readWhole_26 : decode cX0_readWhole 26 = .ok (.getfield 36, 3) := by decide +kernel
theorem dX0_readWhole_29 : decode cX0_readWhole 29 = .ok (.getstatic 47, 3) := by decide +kernel
theorem dX0_readWhole_32 : decode cX0_readWhole 32 = .ok (.if_acmp .ne 44, 3) := by decide +kernel
theorem dX0_readWhole_35 : decode cX0_readWhole 35 = .ok (.aload_n 1, 1) := by decide +kernel
theorem dX0_readWhole_36 : decode cX0_readWhole 36 = .ok (.getfield 36, 3) := by decide +kernel
theorem dX0_readWhole_39 : decode cX0_readWhole 39 = .ok (.getstatic 42, 3) := by decide +kernel
theorem dX0_readWhole_42 : decode cX0_readWhole 42 = .ok (.if_acmp .ne 8, 3) := by decide +kernel
theorem dX0_readWhole_45 : decode cX0_readWhole 45 = .ok (.bipush (-6), 2) := by decide +kernel
theorem dX0_readWhole_47 : decode cX0_readWhole 47 = .ok (.goto 5, 3) := by decide +kernel
theorem dX0_readWhole_50 : decode cX0_readWhole 50 = .ok (.bipush (-7), 2) := by decide +kernel
theorem dX0_readWhole_52 : decode cX0_readWhole 52 = .ok (.istore 4, 2) := by decide +kernel
theorem dX0_readWhole_54 : decode cX0_readWhole 54 = .ok (.aload_n 1, 1) := by decide +kernel
theorem dX0_readWhole_55 : decode cX0_readWhole 55 = .ok (.invokevirtual 50, 3) := by decide +kernel
theorem dX0_readWhole_58 : decode cX0_readWhole 58 = .ok (.aload_n 0, 1) := by decide +kernel
theorem dX0_readWhole_59 : decode cX0_readWhole 59 = .ok (.aload_n 1, 1) := by decide +kernel
theorem dX0_readWhole_60 : decode cX0_readWhole 60 = .ok (.iload_n 2, 1) := by decide +kernel
theorem dX0_readWhole_61 : decode cX0_readWhole 61 = .ok (.invokevirtual 32, 3) := by decide +kernel
theorem dX0_readWhole_64 : decode cX0_readWhole 64 = .ok (.aload_n 0, 1) := by decide +kernel
theorem dX0_readWhole_65 : decode cX0_readWhole 65 = .ok (.iload 4, 2) := by decide +kernel
theorem dX0_readWhole_67 : decode cX0_readWhole 67 = .ok (.invokevirtual 28, 3) := by decide +kernel
theorem dX0_readWhole_70 : decode cX0_readWhole 70 = .ok (.iinc 3 1, 3) := by decide +kernel
theorem dX0_readWhole_73 : decode cX0_readWhole 73 = .ok (.goto (-65), 3) := by decide +kernel
theorem dX0_readWhole_76 : decode cX0_readWhole 76 = .ok (.return_, 1) := by decide +kernel
noncomputable def FX0_readWhole (self : Nat → Nat → Int32 → PP Unit) (a0 : Nat) (p1 : Nat) (p2 : Int32) : PP Unit := bd (FX0_readTest self a0 p1 p2) (fun (_ : Unit) => bd (it (fun (s2 : Int32) => (if (1000 : Int32) ≤ s2 then pu (Sum.inr ()) else bd (gW) (fun x3 => jn (fun (v6 : Unit) => bd (gW) (fun x7 => bd (if x7 = ((some (17 : Fin 23))) then pu (-6 : Int32) else pu (-7 : Int32) : PP (Int32)) (fun (v8 : Int32) => bd (FX5_advance p1) (fun (_ : Unit) => bd (FX0_readTest self a0 p1 p2) (fun (_ : Unit) => bd (FX0_addStep a0 v8) (fun (_ : Unit) => lt (s2 + (1 : Int32)) (fun y12 => pu (Sum.inl y12)))))))) (fun j4 => if x3 = ((some (17 : Fin 23))) then j4 () else bd (gW) (fun x5 => if x5 = ((some (18 : Fin 23))) then j4 () else pu (Sum.inr ())))) : PP ((Int32) ⊕ (Unit)))) FU (0 : Int32)) (fun (v13 : Unit) => pu ()))
set_option maxHeartbeats 4000000 in
set_option maxRecDepth 100000 in
theorem SX0_readWhole {l : Launch} {K : KK} {n : Nat} {dp : Nat} {self : Nat → Nat → Int32 → PP Unit} {hn : 270 ≤ n} (hs : ∀ (a0 : Nat) (p1 : Nat) (p2 : Int32), ob a0 0 → ob p1 5 → CT l K n dp mX0_readPart [.ref (K.2.1 + a0), .ref (K.2.1 + p1), .int p2] enU (self a0 p1 p2)) (a0 : Nat) (p1 : Nat) (p2 : Int32) (h0 : ob a0 0) (h_p1 : ob p1 5) : CT l K n (dp + 11) mX0_readWhole [.ref (K.2.1 + a0), .ref (K.2.1 + p1), .int p2] enU (FX0_readWhole self a0 p1 p2) := by
  refine CT.of2 (lv2 := [(0, .ref (K.2.1 + a0)), (1, .ref (K.2.1 + p1)), (2, .int p2)]) (by decide) rfl hn (Nat.le_of_ble_eq_true rfl) rfl (rp_id ?_)
  unfold FX0_readWhole
  refine rp_aload_n 0 dX0_readWhole_0 rfl ?_
  refine rp_aload_n 1 dX0_readWhole_1 rfl ?_
  refine rp_iload_n 2 dX0_readWhole_2 rfl ?_
  refine rp_callVv [.ref (K.2.1 + p1), .int p2] (SX0_readTest (hn := hn) hs a0 p1 p2 h0 h_p1) cvX0_readTest (mw (i := 690) (by decide +kernel)) (by omega) h0 (by decide) rfl rfl rfl (Nat.le_of_ble_eq_true rfl) dX0_readWhole_3 (fun x1 => ?_)
  refine rp_iconst (0 : Int32) dX0_readWhole_6 (by decide) ?_
  refine rp_istore_n [(3, .int (0 : Int32)), (0, .ref (K.2.1 + a0)), (1, .ref (K.2.1 + p1)), (2, .int p2)] dX0_readWhole_7 (by decide) rfl ?_
  refine rp_as ?_
  refine rp_join 76 (fun v13 => []) (fun _ => []) (fun v13 => ?_) (fun hX8_0 => ?_)
  · exact rp_pu (rp_vret rfl dX0_readWhole_76)
  refine rp_sub [1, 2, 3, 0] rfl (rp_it (fun (s2 : Int32) => [(0, .ref (K.2.1 + a0)), (1, .ref (K.2.1 + p1)), (2, .int p2), (3, .int s2)]) (fun N8 ih8 s2 => ?_) FU (0 : Int32))
  refine rp_iload_n 3 dX0_readWhole_8 rfl ?_
  refine rp_sipush (1000 : Int32) dX0_readWhole_9 (by decide) ?_
  refine rp_icmp_ge 76 dX0_readWhole_12 (by decide) ?_ ?_
  · exact rp_sub [] rfl (rp_puR (hX8_0 ()))
  · refine rp_aload_n 1 dX0_readWhole_15 rfl ?_
    refine rp_getW fi_X0_36 h_p1 rfl dX0_readWhole_16 (fun x3 => ?_)
    refine rp_getWord (17 : Fin 23) (mw (i := 711) (by decide +kernel)) dX0_readWhole_19 ?_
    refine rp_jn2 35 (fun (v6 : Unit) => [(0, .ref (K.2.1 + a0)), (1, .ref (K.2.1 + p1)), (2, .int p2), (3, .int s2)]) (fun v6 => []) (fun v6 => ?_) (fun hK35 => ?_)
    · refine rp_aload_n 1 dX0_readWhole_35 rfl ?_
      refine rp_getW fi_X0_36 h_p1 rfl dX0_readWhole_36 (fun x7 => ?_)
      refine rp_getWord (17 : Fin 23) (mw (i := 711) (by decide +kernel)) dX0_readWhole_39 ?_
      refine rp_as ?_
      refine rp_join 52 (fun (v8 : Int32) => [(0, .ref (K.2.1 + a0)), (1, .ref (K.2.1 + p1)), (2, .int p2), (3, .int s2)]) (fun v8 => [.int v8]) (fun v8 => ?_) (fun hJ52 => ?_)
      · refine rp_istore [(4, .int v8), (0, .ref (K.2.1 + a0)), (1, .ref (K.2.1 + p1)), (2, .int p2), (3, .int s2)] dX0_readWhole_52 (by decide) rfl ?_
        refine rp_aload_n 2 dX0_readWhole_54 rfl ?_
        refine rp_callVv [] (SX5_advance (hn := hn) p1 h_p1) cvX5_advance (mw (i := 709) (by decide +kernel)) (by omega) h_p1 (by decide) rfl rfl rfl (Nat.le_of_ble_eq_true rfl) dX0_readWhole_55 (fun x9 => ?_)
        refine rp_aload_n 1 dX0_readWhole_58 rfl ?_
        refine rp_aload_n 2 dX0_readWhole_59 rfl ?_
        refine rp_iload_n 3 dX0_readWhole_60 rfl ?_
        refine rp_callVv [.ref (K.2.1 + p1), .int p2] (SX0_readTest (hn := hn) hs a0 p1 p2 h0 h_p1) cvX0_readTest (mw (i := 690) (by decide +kernel)) (by omega) h0 (by decide) rfl rfl rfl (Nat.le_of_ble_eq_true rfl) dX0_readWhole_61 (fun x10 => ?_)
        refine rp_aload_n 1 dX0_readWhole_64 rfl ?_
        refine rp_iload 0 dX0_readWhole_65 rfl ?_
        refine rp_callVv [.int v8] (SX0_addStep (hn := hn) a0 v8 h0) cvX0_addStep (mw (i := 434) (by decide +kernel)) (by omega) h0 (by decide) rfl rfl rfl (Nat.le_of_ble_eq_true rfl) dX0_readWhole_67 (fun x11 => ?_)
        refine rp_iinc (fun y12 => [(3, .int y12), (4, .int v8), (0, .ref (K.2.1 + a0)), (1, .ref (K.2.1 + p1)), (2, .int p2)]) 4 dX0_readWhole_70 rfl (by rfl) (by decide) (fun y12 => rfl) (fun y12 => ?_)
        refine rp_goto 8 dX0_readWhole_73 (by decide) ?_
        exact rp_sub [2, 3, 4, 0] rfl (ih8 y12)
      refine rp_acmp_ne 50 dX0_readWhole_42 (by decide) ?_ ?_
      · refine rp_bipush (-7 : Int32) dX0_readWhole_50 (by decide) ?_
        exact rp_sub [0, 1, 2, 3] rfl (rp_pu (hJ52 (-7 : Int32)))
      · refine rp_bipush (-6 : Int32) dX0_readWhole_45 (by decide) ?_
        refine rp_goto 52 dX0_readWhole_47 (by decide) ?_
        exact rp_sub [0, 1, 2, 3] rfl (rp_pu (hJ52 (-6 : Int32)))
    refine rp_acmp_eq 35 dX0_readWhole_22 (by decide) ?_ ?_
    · exact rp_sub [0, 1, 2, 3] rfl (hK35 ())
    · refine rp_aload_n 1 dX0_readWhole_25 rfl ?_
      refine rp_getW fi_X0_36 h_p1 rfl dX0_readWhole_26 (fun x5 => ?_)
      refine rp_getWord (18 : Fin 23) (mw (i := 713) (by decide +kernel)) dX0_readWhole_29 ?_
      refine rp_acmp_ne 76 dX0_readWhole_32 (by decide) ?_ ?_
      · exact rp_sub [] rfl (rp_puR (hX8_0 ()))
      · exact rp_sub [0, 1, 2, 3] rfl (hK35 ())

theorem dX0_readPart_0 : decode cX0_readPart 0 = .ok (.aload_n 1, 1) := by decide +kernel
theorem dX0_readPart_1 : decode cX0_readPart 1 = .ok (.getfield 36, 3) := by decide +kernel
theorem dX0_readPart_4 : decode cX0_readPart 4 = .ok (.ifnull 18, 3) := by decide +kernel
theorem dX0_readPart_7 : decode cX0_readPart 7 = .ok (.aload_n 1, 1) := by decide +kernel
theorem dX0_readPart_8 : decode cX0_readPart 8 = .ok (.getfield 36, 3) := by decide +kernel
theorem dX0_readPart_11 : decode cX0_readPart 11 = .ok (.getfield 65, 3) := by decide +kernel
theorem dX0_readPart_14 : decode cX0_readPart 14 = .ok (.iconst 2, 1) := by decide +kernel
theorem dX0_readPart_15 : decode cX0_readPart 15 = .ok (.if_icmp .ne 7, 3) := by decide +kernel
theorem dX0_readPart_18 : decode cX0_readPart 18 = .ok (.iconst 1, 1) := by decide +kernel
theorem dX0_readPart_19 : decode cX0_readPart 19 = .ok (.goto 4, 3) := by decide +kernel
theorem dX0_readPart_22 : decode cX0_readPart 22 = .ok (.iconst 0, 1) := by decide +kernel
theorem dX0_readPart_23 : decode cX0_readPart 23 = .ok (.istore_n 3, 1) := by decide +kernel
theorem dX0_readPart_24 : decode cX0_readPart 24 = .ok (.aload_n 1, 1) := by decide +kernel
theorem dX0_readPart_25 : decode cX0_readPart 25 = .ok (.getfield 36, 3) := by decide +kernel
theorem dX0_readPart_28 : decode cX0_readPart 28 = .ok (.getstatic 68, 3) := by decide +kernel
theorem dX0_readPart_31 : decode cX0_readPart 31 = .ok (.if_acmp .ne 7, 3) := by decide +kernel
theorem dX0_readPart_34 : decode cX0_readPart 34 = .ok (.iconst 1, 1) := by decide +kernel
theorem dX0_readPart_35 : decode cX0_readPart 35 = .ok (.goto 4, 3) := by decide +kernel
theorem dX0_readPart_38 : decode cX0_readPart 38 = .ok (.iconst 0, 1) := by decide +kernel
theorem dX0_readPart_39 : decode cX0_readPart 39 = .ok (.istore 4, 2) := by decide +kernel
theorem dX0_readPart_41 : decode cX0_readPart 41 = .ok (.iload_n 3, 1) := by decide +kernel
theorem dX0_readPart_42 : decode cX0_readPart 42 = .ok (.ifCond .ne 33, 3) := by decide +kernel
theorem dX0_readPart_45 : decode cX0_readPart 45 = .ok (.iload 4, 2) := by decide +kernel
theorem dX0_readPart_47 : decode cX0_readPart 47 = .ok (.ifCond .ne 28, 3) := by decide +kernel
theorem dX0_readPart_50 : decode cX0_readPart 50 = .ok (.aload_n 1, 1) := by decide +kernel
theorem dX0_readPart_51 : decode cX0_readPart 51 = .ok (.getfield 56, 3) := by decide +kernel
theorem dX0_readPart_54 : decode cX0_readPart 54 = .ok (.iconst 3, 1) := by decide +kernel
theorem dX0_readPart_55 : decode cX0_readPart 55 = .ok (.if_icmp .eq 20, 3) := by decide +kernel
theorem dX0_readPart_58 : decode cX0_readPart 58 = .ok (.aload_n 1, 1) := by decide +kernel
theorem dX0_readPart_59 : decode cX0_readPart 59 = .ok (.getfield 56, 3) := by decide +kernel
theorem dX0_readPart_62 : decode cX0_readPart 62 = .ok (.bipush 40, 2) := by decide +kernel
theorem dX0_readPart_64 : decode cX0_readPart 64 = .ok (.if_icmp .eq 11, 3) := by decide +kernel
theorem dX0_readPart_67 : decode cX0_readPart 67 = .ok (.aload_n 1, 1) := by decide +kernel
theorem dX0_readPart_68 : decode cX0_readPart 68 = .ok (.iconst 1, 1) := by decide +kernel
theorem dX0_readPart_69 : decode cX0_readPart 69 = .ok (.invokevirtual 71, 3) := by decide +kernel
theorem dX0_readPart_72 : decode cX0_readPart 72 = .ok (.goto 113, 3) := by decide +kernel
theorem dX0_readPart_75 : decode cX0_readPart 75 = .ok (.iload_n 2, 1) := by decide +kernel
theorem dX0_readPart_76 : decode cX0_readPart 76 = .ok (.iconst 5, 1) := by decide +kernel
theorem dX0_readPart_77 : decode cX0_readPart 77 = .ok (.if_icmp .lt 11, 3) := by decide +kernel
theorem dX0_readPart_80 : decode cX0_readPart 80 = .ok (.aload_n 1, 1) := by decide +kernel
theorem dX0_readPart_81 : decode cX0_readPart 81 = .ok (.iconst 5, 1) := by decide +kernel
theorem dX0_readPart_82 : decode cX0_readPart 82 = .ok (.invokevirtual 71, 3) := by decide +kernel
theorem dX0_readPart_85 : decode cX0_readPart 85 = .ok (.goto 100, 3) := by decide +kernel
theorem dX0_readPart_88 : decode cX0_readPart 88 = .ok (.iload 4, 2) := by decide +kernel
theorem dX0_readPart_90 : decode cX0_readPart 90 = .ok (.ifCond .eq 24, 3) := by decide +kernel
theorem dX0_readPart_93 : decode cX0_readPart 93 = .ok (.aload_n 1, 1) := by decide +kernel
theorem dX0_readPart_94 : decode cX0_readPart 94 = .ok (.invokevirtual 50, 3) := by decide +kernel
theorem dX0_readPart_97 : decode cX0_readPart 97 = .ok (.aload_n 0, 1) := by decide +kernel
theorem dX0_readPart_98 : decode cX0_readPart 98 = .ok (.aload_n 1, 1) := by decide +kernel
theorem dX0_readPart_99 : decode cX0_readPart 99 = .ok (.iload_n 2, 1) := by decide +kernel
theorem dX0_readPart_100 : decode cX0_readPart 100 = .ok (.iconst 1, 1) := by decide +kernel
theorem dX0_readPart_101 : decode cX0_readPart 101 = .ok (.iadd, 1) := by decide +kernel
theorem dX0_readPart_102 : decode cX0_readPart 102 = .ok (.invokevirtual 62, 3) := by decide +kernel
theorem dX0_readPart_105 : decode cX0_readPart 105 = .ok (.aload_n 0, 1) := by decide +kernel
theorem dX0_readPart_106 : decode cX0_readPart 106 = .ok (.bipush (-5), 2) := by decide +kernel
theorem dX0_readPart_108 : decode cX0_readPart 108 = .ok (.invokevirtual 28, 3) := by decide +kernel
theorem dX0_readPart_111 : decode cX0_readPart 111 = .ok (.goto 74, 3) := by decide +kernel
theorem dX0_readPart_114 : decode cX0_readPart 114 = .ok (.aload_n 1, 1) := by decide +kernel
theorem dX0_readPart_115 : decode cX0_readPart 115 = .ok (.getfield 56, 3) := by decide +kernel
theorem dX0_readPart_118 : decode cX0_readPart 118 = .ok (.bipush 40, 2) := by decide +kernel
theorem dX0_readPart_120 : decode cX0_readPart 120 = .ok (.if_icmp .ne 39, 3) := by decide +kernel
theorem dX0_readPart_123 : decode cX0_readPart 123 = .ok (.aload_n 1, 1) := by decide +kernel
theorem dX0_readPart_124 : decode cX0_readPart 124 = .ok (.invokevirtual 50, 3) := by decide +kernel
theorem dX0_readPart_127 : decode cX0_readPart 127 = .ok (.aload_n 0, 1) := by decide +kernel
theorem dX0_readPart_128 : decode cX0_readPart 128 = .ok (.aload_n 1, 1) := by decide +kernel
theorem dX0_readPart_129 : decode cX0_readPart 129 = .ok (.iload_n 2, 1) := by decide +kernel
theorem dX0_readPart_130 : decode cX0_readPart 130 = .ok (.iconst 1, 1) := by decide +kernel
theorem dX0_readPart_131 : decode cX0_readPart 131 = .ok (.iadd, 1) := by decide +kernel
theorem dX0_readPart_132 : decode cX0_readPart 132 = .ok (.invokevirtual 74, 3) := by decide +kernel
theorem dX0_readPart_135 : decode cX0_readPart 135 = .ok (.aload_n 1, 1) := by decide +kernel
theorem dX0_readPart_136 : decode cX0_readPart 136 = .ok (.getfield 56, 3) := by decide +kernel
theorem dX0_readPart_139 : decode cX0_readPart 139 = .ok (.bipush 41, 2) := by decide +kernel
theorem dX0_readPart_141 : decode cX0_readPart 141 = .ok (.if_icmp .ne 10, 3) := by decide +kernel
theorem dX0_readPart_144 : decode cX0_readPart 144 = .ok (.aload_n 1, 1) := by decide +kernel
theorem dX0_readPart_145 : decode cX0_readPart 145 = .ok (.invokevirtual 50, 3) := by decide +kernel
theorem dX0_readPart_148 : decode cX0_readPart 148 = .ok (.goto 37, 3) := by decide +kernel
theorem dX0_readPart_151 : decode cX0_readPart 151 = .ok (.aload_n 1, 1) := by decide +kernel
theorem dX0_readPart_152 : decode cX0_readPart 152 = .ok (.iconst 1, 1) := by decide +kernel
theorem dX0_readPart_153 : decode cX0_readPart 153 = .ok (.invokevirtual 71, 3) := by decide +kernel
theorem dX0_readPart_156 : decode cX0_readPart 156 = .ok (.goto 29, 3) := by decide +kernel
theorem dX0_readPart_159 : decode cX0_readPart 159 = .ok (.aload_n 0, 1) := by decide +kernel
theorem dX0_readPart_160 : decode cX0_readPart 160 = .ok (.iload_n 3, 1) := by decide +kernel
theorem dX0_readPart_161 : decode cX0_readPart 161 = .ok (.ifCond .eq 13, 3) := by decide +kernel
theorem dX0_readPart_164 : decode cX0_readPart 164 = .ok (.aload_n 1, 1) := by decide +kernel
theorem dX0_readPart_165 : decode cX0_readPart 165 = .ok (.getfield 36, 3) := by decide +kernel
theorem dX0_readPart_168 : decode cX0_readPart 168 = .ok (.getfield 77, 3) := by decide +kernel
theorem dX0_readPart_171 : decode cX0_readPart 171 = .ok (.goto 7, 3) := by decide +kernel
theorem dX0_readPart_174 : decode cX0_readPart 174 = .ok (.aload_n 1, 1) := by decide +kernel
theorem dX0_readPart_175 : decode cX0_readPart 175 = .ok (.getfield 80, 3) := by decide +kernel
theorem dX0_readPart_178 : decode cX0_readPart 178 = .ok (.invokevirtual 28, 3) := by decide +kernel
theorem dX0_readPart_181 : decode cX0_readPart 181 = .ok (.aload_n 1, 1) := by decide +kernel
theorem dX0_readPart_182 : decode cX0_readPart 182 = .ok (.invokevirtual 50, 3) := by decide +kernel
theorem dX0_readPart_185 : decode cX0_readPart 185 = .ok (.return_, 1) := by decide +kernel
noncomputable def GX0_readPart (self : Nat → Nat → Int32 → PP Unit) (a0 : Nat) (p1 : Nat) (p2 : Int32) : PP Unit := bd (gW) (fun x1 => bd (if x1 = none then pu (0 : Int32) else bd (gW) (fun x2 => bd (nn x2) (fun x3 => if ((wgr.getD x3.val 0)) = (2 : Int32) then pu (1 : Int32) else pu (0 : Int32))) : PP (Int32)) (fun (v5 : Int32) => bd (gW) (fun x6 => bd (if x6 = ((some (16 : Fin 23))) then pu (1 : Int32) else pu (0 : Int32) : PP (Int32)) (fun (v7 : Int32) => bd (jn (fun (v12 : Unit) => if p2 < (5 : Int32) then if v7 = 0 then bd (gI p1 2) (fun x13 => if x13 = (40 : Int32) then bd (FX5_advance p1) (fun (_ : Unit) => bd (FX0_readWhole self a0 p1 (p2 + (1 : Int32))) (fun (_ : Unit) => bd (gI p1 2) (fun x23 => if x23 = (41 : Int32) then bd (FX5_advance p1) (fun (_ : Unit) => pu ()) else bd (FX5_fail p1 (1 : Int32)) (fun (_ : Unit) => pu ())))) else bd (if v5 = 0 then bd (gI p1 5) (fun x14 => pu x14) else bd (gW) (fun x15 => bd (nn x15) (fun x16 => pu ((wva.getD x16.val 0)))) : PP (Int32)) (fun (v18 : Int32) => bd (FX0_addStep a0 v18) (fun (_ : Unit) => bd (FX5_advance p1) (fun (_ : Unit) => pu ())))) else bd (FX5_advance p1) (fun (_ : Unit) => bd (self a0 p1 (p2 + (1 : Int32))) (fun (_ : Unit) => bd (FX0_addStep a0 (-5 : Int32)) (fun (_ : Unit) => pu ()))) else bd (FX5_fail p1 (5 : Int32)) (fun (_ : Unit) => pu ())) (fun j8 => if v5 = 0 then if v7 = 0 then bd (gI p1 2) (fun x9 => if x9 = (3 : Int32) then j8 () else bd (gI p1 2) (fun x10 => if x10 = (40 : Int32) then j8 () else bd (FX5_fail p1 (1 : Int32)) (fun (_ : Unit) => pu ()))) else j8 () else j8 ()) : PP (Unit)) (fun (v30 : Unit) => pu ())))))
set_option maxHeartbeats 4000000 in
set_option maxRecDepth 100000 in
theorem SGX0_readPart {l : Launch} {K : KK} {n : Nat} {dp : Nat} {self : Nat → Nat → Int32 → PP Unit} {hn : 270 ≤ n} (hs : ∀ (a0 : Nat) (p1 : Nat) (p2 : Int32), ob a0 0 → ob p1 5 → CT l K n dp mX0_readPart [.ref (K.2.1 + a0), .ref (K.2.1 + p1), .int p2] enU (self a0 p1 p2)) (a0 : Nat) (p1 : Nat) (p2 : Int32) (h0 : ob a0 0) (h_p1 : ob p1 5) : CT l K n (dp + 12) mX0_readPart [.ref (K.2.1 + a0), .ref (K.2.1 + p1), .int p2] enU (GX0_readPart self a0 p1 p2) := by
  refine CT.of2 (lv2 := [(0, .ref (K.2.1 + a0)), (1, .ref (K.2.1 + p1)), (2, .int p2)]) (by decide) rfl hn (Nat.le_of_ble_eq_true rfl) rfl (rp_id ?_)
  unfold GX0_readPart
  refine rp_aload_n 1 dX0_readPart_0 rfl ?_
  refine rp_getW fi_X0_36 h_p1 rfl dX0_readPart_1 (fun x1 => ?_)
  refine rp_as ?_
  refine rp_join 23 (fun (v5 : Int32) => [(0, .ref (K.2.1 + a0)), (1, .ref (K.2.1 + p1)), (2, .int p2)]) (fun v5 => [.int v5]) (fun v5 => ?_) (fun hJ23 => ?_)
  · refine rp_istore_n [(3, .int v5), (0, .ref (K.2.1 + a0)), (1, .ref (K.2.1 + p1)), (2, .int p2)] dX0_readPart_23 (by decide) rfl ?_
    refine rp_aload_n 2 dX0_readPart_24 rfl ?_
    refine rp_getW fi_X0_36 h_p1 rfl dX0_readPart_25 (fun x6 => ?_)
    refine rp_getWord (16 : Fin 23) (mw (i := 706) (by decide +kernel)) dX0_readPart_28 ?_
    refine rp_as ?_
    refine rp_join 39 (fun (v7 : Int32) => [(0, .ref (K.2.1 + a0)), (1, .ref (K.2.1 + p1)), (2, .int p2), (3, .int v5)]) (fun v7 => [.int v7]) (fun v7 => ?_) (fun hJ39 => ?_)
    · refine rp_istore [(4, .int v7), (0, .ref (K.2.1 + a0)), (1, .ref (K.2.1 + p1)), (2, .int p2), (3, .int v5)] dX0_readPart_39 (by decide) rfl ?_
      refine rp_iload_n 4 dX0_readPart_41 rfl ?_
      refine rp_as ?_
      refine rp_join 185 (fun (v30 : Unit) => []) (fun v30 => []) (fun v30 => ?_) (fun hJ185 => ?_)
      · exact rp_pu (rp_vret rfl dX0_readPart_185)
      refine rp_jn2 75 (fun (v12 : Unit) => [(0, .ref (K.2.1 + a0)), (1, .ref (K.2.1 + p1)), (2, .int p2), (3, .int v5), (4, .int v7)]) (fun v12 => []) (fun v12 => ?_) (fun hK75 => ?_)
      · refine rp_iload_n 2 dX0_readPart_75 rfl ?_
        refine rp_iconst (5 : Int32) dX0_readPart_76 (by decide) ?_
        refine rp_icmp_lt 88 dX0_readPart_77 (by decide) ?_ ?_
        · refine rp_iload 4 dX0_readPart_88 rfl ?_
          refine rp_if_eq 114 dX0_readPart_90 (by decide) ?_ ?_
          · refine rp_aload_n 1 dX0_readPart_114 rfl ?_
            refine rp_getI fi_X0_56 h_p1 rfl dX0_readPart_115 (fun x13 => ?_)
            refine rp_bipush (40 : Int32) dX0_readPart_118 (by decide) ?_
            refine rp_icmp_ne 159 dX0_readPart_120 (by decide) ?_ ?_
            · refine rp_aload_n 0 dX0_readPart_159 rfl ?_
              refine rp_iload_n 3 dX0_readPart_160 rfl ?_
              refine rp_as ?_
              refine rp_join 178 (fun (v18 : Int32) => [(1, .ref (K.2.1 + p1))]) (fun v18 => [.int v18, .ref (K.2.1 + a0)]) (fun v18 => ?_) (fun hJ178 => ?_)
              · refine rp_callVv [.int v18] (SX0_addStep (hn := hn) a0 v18 h0) cvX0_addStep (mw (i := 434) (by decide +kernel)) (by omega) h0 (by decide) rfl rfl rfl (Nat.le_of_ble_eq_true rfl) dX0_readPart_178 (fun x19 => ?_)
                refine rp_aload_n 0 dX0_readPart_181 rfl ?_
                refine rp_callVv [] (SX5_advance (hn := hn) p1 h_p1) cvX5_advance (mw (i := 709) (by decide +kernel)) (by omega) h_p1 (by decide) rfl rfl rfl (Nat.le_of_ble_eq_true rfl) dX0_readPart_182 (fun x20 => ?_)
                exact rp_sub [] rfl (rp_pu (hJ185 ()))
              refine rp_if_eq 174 dX0_readPart_161 (by decide) ?_ ?_
              · refine rp_aload_n 1 dX0_readPart_174 rfl ?_
                refine rp_getI fi_X0_80 h_p1 rfl dX0_readPart_175 (fun x14 => ?_)
                exact rp_sub [1] rfl (rp_pu (hJ178 x14))
              · refine rp_aload_n 1 dX0_readPart_164 rfl ?_
                refine rp_getW fi_X0_36 h_p1 rfl dX0_readPart_165 (fun x15 => ?_)
                refine rp_getGv (mw (i := 1858) (by decide +kernel)) dX0_readPart_168 (fun x16 => ?_)
                refine rp_goto 178 dX0_readPart_171 (by decide) ?_
                exact rp_sub [1] rfl (rp_pu (hJ178 ((wva.getD x16.val 0))))
            · refine rp_aload_n 1 dX0_readPart_123 rfl ?_
              refine rp_callVv [] (SX5_advance (hn := hn) p1 h_p1) cvX5_advance (mw (i := 709) (by decide +kernel)) (by omega) h_p1 (by decide) rfl rfl rfl (Nat.le_of_ble_eq_true rfl) dX0_readPart_124 (fun x21 => ?_)
              refine rp_aload_n 0 dX0_readPart_127 rfl ?_
              refine rp_aload_n 1 dX0_readPart_128 rfl ?_
              refine rp_iload_n 2 dX0_readPart_129 rfl ?_
              refine rp_iconst (1 : Int32) dX0_readPart_130 (by decide) ?_
              refine rp_iadd dX0_readPart_131 ?_
              refine rp_callVv [.ref (K.2.1 + p1), .int (p2 + (1 : Int32))] (SX0_readWhole (hn := hn) hs a0 p1 (p2 + (1 : Int32)) h0 h_p1) cvX0_readWhole (mw (i := 710) (by decide +kernel)) (by omega) h0 (by decide) rfl rfl rfl (Nat.le_of_ble_eq_true rfl) dX0_readPart_132 (fun x22 => ?_)
              refine rp_aload_n 1 dX0_readPart_135 rfl ?_
              refine rp_getI fi_X0_56 h_p1 rfl dX0_readPart_136 (fun x23 => ?_)
              refine rp_bipush (41 : Int32) dX0_readPart_139 (by decide) ?_
              refine rp_icmp_ne 151 dX0_readPart_141 (by decide) ?_ ?_
              · refine rp_aload_n 1 dX0_readPart_151 rfl ?_
                refine rp_iconst (1 : Int32) dX0_readPart_152 (by decide) ?_
                refine rp_callVv [.int (1 : Int32)] (SX5_fail (hn := hn) p1 (1 : Int32) h_p1) cvX5_fail (mw (i := 708) (by decide +kernel)) (by omega) h_p1 (by decide) rfl rfl rfl (Nat.le_of_ble_eq_true rfl) dX0_readPart_153 (fun x24 => ?_)
                refine rp_goto 185 dX0_readPart_156 (by decide) ?_
                exact rp_sub [] rfl (rp_pu (hJ185 ()))
              · refine rp_aload_n 1 dX0_readPart_144 rfl ?_
                refine rp_callVv [] (SX5_advance (hn := hn) p1 h_p1) cvX5_advance (mw (i := 709) (by decide +kernel)) (by omega) h_p1 (by decide) rfl rfl rfl (Nat.le_of_ble_eq_true rfl) dX0_readPart_145 (fun x25 => ?_)
                refine rp_goto 185 dX0_readPart_148 (by decide) ?_
                exact rp_sub [] rfl (rp_pu (hJ185 ()))
          · refine rp_aload_n 1 dX0_readPart_93 rfl ?_
            refine rp_callVv [] (SX5_advance (hn := hn) p1 h_p1) cvX5_advance (mw (i := 709) (by decide +kernel)) (by omega) h_p1 (by decide) rfl rfl rfl (Nat.le_of_ble_eq_true rfl) dX0_readPart_94 (fun x26 => ?_)
            refine rp_aload_n 0 dX0_readPart_97 rfl ?_
            refine rp_aload_n 1 dX0_readPart_98 rfl ?_
            refine rp_iload_n 2 dX0_readPart_99 rfl ?_
            refine rp_iconst (1 : Int32) dX0_readPart_100 (by decide) ?_
            refine rp_iadd dX0_readPart_101 ?_
            refine rp_callVv [.ref (K.2.1 + p1), .int (p2 + (1 : Int32))] (hs a0 p1 (p2 + (1 : Int32)) h0 h_p1) cvX0_readPart (mw (i := 702) (by decide +kernel)) (by omega) h0 (by decide) rfl rfl rfl (Nat.le_of_ble_eq_true rfl) dX0_readPart_102 (fun x27 => ?_)
            refine rp_aload_n 0 dX0_readPart_105 rfl ?_
            refine rp_bipush (-5 : Int32) dX0_readPart_106 (by decide) ?_
            refine rp_callVv [.int (-5 : Int32)] (SX0_addStep (hn := hn) a0 (-5 : Int32) h0) cvX0_addStep (mw (i := 434) (by decide +kernel)) (by omega) h0 (by decide) rfl rfl rfl (Nat.le_of_ble_eq_true rfl) dX0_readPart_108 (fun x28 => ?_)
            refine rp_goto 185 dX0_readPart_111 (by decide) ?_
            exact rp_sub [] rfl (rp_pu (hJ185 ()))
        · refine rp_aload_n 1 dX0_readPart_80 rfl ?_
          refine rp_iconst (5 : Int32) dX0_readPart_81 (by decide) ?_
          refine rp_callVv [.int (5 : Int32)] (SX5_fail (hn := hn) p1 (5 : Int32) h_p1) cvX5_fail (mw (i := 708) (by decide +kernel)) (by omega) h_p1 (by decide) rfl rfl rfl (Nat.le_of_ble_eq_true rfl) dX0_readPart_82 (fun x29 => ?_)
          refine rp_goto 185 dX0_readPart_85 (by decide) ?_
          exact rp_sub [] rfl (rp_pu (hJ185 ()))
      refine rp_if_ne 75 dX0_readPart_42 (by decide) ?_ ?_
      · exact rp_sub [1, 2, 3, 4, 0] rfl (hK75 ())
      · refine rp_iload 0 dX0_readPart_45 rfl ?_
        refine rp_if_ne 75 dX0_readPart_47 (by decide) ?_ ?_
        · exact rp_sub [1, 2, 3, 4, 0] rfl (hK75 ())
        · refine rp_aload_n 2 dX0_readPart_50 rfl ?_
          refine rp_getI fi_X0_56 h_p1 rfl dX0_readPart_51 (fun x9 => ?_)
          refine rp_iconst (3 : Int32) dX0_readPart_54 (by decide) ?_
          refine rp_icmp_eq 75 dX0_readPart_55 (by decide) ?_ ?_
          · exact rp_sub [1, 2, 3, 4, 0] rfl (hK75 ())
          · refine rp_aload_n 2 dX0_readPart_58 rfl ?_
            refine rp_getI fi_X0_56 h_p1 rfl dX0_readPart_59 (fun x10 => ?_)
            refine rp_bipush (40 : Int32) dX0_readPart_62 (by decide) ?_
            refine rp_icmp_eq 75 dX0_readPart_64 (by decide) ?_ ?_
            · exact rp_sub [1, 2, 3, 4, 0] rfl (hK75 ())
            · refine rp_aload_n 2 dX0_readPart_67 rfl ?_
              refine rp_iconst (1 : Int32) dX0_readPart_68 (by decide) ?_
              refine rp_callVv [.int (1 : Int32)] (SX5_fail (hn := hn) p1 (1 : Int32) h_p1) cvX5_fail (mw (i := 708) (by decide +kernel)) (by omega) h_p1 (by decide) rfl rfl rfl (Nat.le_of_ble_eq_true rfl) dX0_readPart_69 (fun x11 => ?_)
              refine rp_goto 185 dX0_readPart_72 (by decide) ?_
              exact rp_sub [] rfl (rp_pu (hJ185 ()))
    refine rp_acmp_ne 38 dX0_readPart_31 (by decide) ?_ ?_
    · refine rp_iconst (0 : Int32) dX0_readPart_38 (by decide) ?_
      exact rp_sub [1, 2, 3, 0] rfl (rp_pu (hJ39 (0 : Int32)))
    · refine rp_iconst (1 : Int32) dX0_readPart_34 (by decide) ?_
      refine rp_goto 39 dX0_readPart_35 (by decide) ?_
      exact rp_sub [1, 2, 3, 0] rfl (rp_pu (hJ39 (1 : Int32)))
  refine rp_ifnull 22 dX0_readPart_4 (by decide) ?_ ?_
  · refine rp_iconst (0 : Int32) dX0_readPart_22 (by decide) ?_
    exact rp_sub [0, 1, 2] rfl (rp_pu (hJ23 (0 : Int32)))
  · refine rp_aload_n 1 dX0_readPart_7 rfl ?_
    refine rp_getW fi_X0_36 h_p1 rfl dX0_readPart_8 (fun x2 => ?_)
    refine rp_getGg (mw (i := 1857) (by decide +kernel)) dX0_readPart_11 (fun x3 => ?_)
    refine rp_iconst (2 : Int32) dX0_readPart_14 (by decide) ?_
    refine rp_icmp_ne 22 dX0_readPart_15 (by decide) ?_ ?_
    · refine rp_iconst (0 : Int32) dX0_readPart_22 (by decide) ?_
      exact rp_sub [0, 1, 2] rfl (rp_pu (hJ23 (0 : Int32)))
    · refine rp_iconst (1 : Int32) dX0_readPart_18 (by decide) ?_
      refine rp_goto 23 dX0_readPart_19 (by decide) ?_
      exact rp_sub [0, 1, 2] rfl (rp_pu (hJ23 (1 : Int32)))
noncomputable def FX0_readPart : Nat → Nat → Nat → Int32 → PP Unit
  | 0, _, _, _ => fl
  | k + 1, a0, p1, p2 => GX0_readPart (FX0_readPart k) a0 p1 p2
theorem SX0_readPart {l : Launch} {K : KK} {n : Nat} {hn : 270 ≤ n} : ∀ (k : Nat) (a0 : Nat) (p1 : Nat) (p2 : Int32) (h0 : ob a0 0) (h_p1 : ob p1 5), CT l K n (12 * k) mX0_readPart [.ref (K.2.1 + a0), .ref (K.2.1 + p1), .int p2] enU (FX0_readPart k a0 p1 p2)
  | 0, _, _, _, _, _ => fun σ r σ' q => by cases q
  | k + 1, a0, p1, p2, h0, h_p1 => SGX0_readPart (hn := hn) (dp := 12 * k) (fun z0 z1 z2 z3 z4 => SX0_readPart (hn := hn) k z0 z1 z2 z3 z4) a0 p1 p2 h0 h_p1

theorem dX5_startReading_0 : decode cX5_startReading 0 = .ok (.aload_n 0, 1) := by decide +kernel
theorem dX5_startReading_1 : decode cX5_startReading 1 = .ok (.iconst 0, 1) := by decide +kernel
theorem dX5_startReading_2 : decode cX5_startReading 2 = .ok (.putfield 19, 3) := by decide +kernel
theorem dX5_startReading_5 : decode cX5_startReading 5 = .ok (.aload_n 0, 1) := by decide +kernel
theorem dX5_startReading_6 : decode cX5_startReading 6 = .ok (.iconst 0, 1) := by decide +kernel
theorem dX5_startReading_7 : decode cX5_startReading 7 = .ok (.putfield 22, 3) := by decide +kernel
theorem dX5_startReading_10 : decode cX5_startReading 10 = .ok (.aload_n 0, 1) := by decide +kernel
theorem dX5_startReading_11 : decode cX5_startReading 11 = .ok (.invokevirtual 25, 3) := by decide +kernel
theorem dX5_startReading_14 : decode cX5_startReading 14 = .ok (.return_, 1) := by decide +kernel
noncomputable def FX5_startReading (a0 : Nat) : PP Unit := bd (sI a0 6 (0 : Int32)) (fun (_ : Unit) => bd (sI a0 8 (0 : Int32)) (fun (_ : Unit) => bd (FX5_advance a0) (fun (_ : Unit) => pu ())))
set_option maxHeartbeats 4000000 in
set_option maxRecDepth 100000 in
theorem SX5_startReading {l : Launch} {K : KK} {n : Nat} {hn : 270 ≤ n} (a0 : Nat) (h0 : ob a0 5) : CT l K n 8 mX5_startReading [.ref (K.2.1 + a0)] enU (FX5_startReading a0) := by
  refine CT.of2 (lv2 := [(0, .ref (K.2.1 + a0))]) (by decide) rfl hn (Nat.le_of_ble_eq_true rfl) rfl (rp_id ?_)
  unfold FX5_startReading
  refine rp_aload_n 0 dX5_startReading_0 rfl ?_
  refine rp_iconst (0 : Int32) dX5_startReading_1 (by decide) ?_
  refine rp_putI fi_X5_19 fp_X5_6 h0 rfl dX5_startReading_2 ?_
  refine rp_aload_n 0 dX5_startReading_5 rfl ?_
  refine rp_iconst (0 : Int32) dX5_startReading_6 (by decide) ?_
  refine rp_putI fi_X5_22 fp_X5_8 h0 rfl dX5_startReading_7 ?_
  refine rp_aload_n 0 dX5_startReading_10 rfl ?_
  refine rp_callVv [] (SX5_advance (hn := hn) a0 h0) cvX5_advance (mw (i := 442) (by decide +kernel)) (by omega) h0 (by decide) rfl rfl rfl (Nat.le_of_ble_eq_true rfl) dX5_startReading_11 (fun x1 => ?_)
  exact rp_pu (rp_vret rfl dX5_startReading_14)

theorem dX5_expectWord_0 : decode cX5_expectWord 0 = .ok (.aload_n 0, 1) := by decide +kernel
theorem dX5_expectWord_1 : decode cX5_expectWord 1 = .ok (.getfield 28, 3) := by decide +kernel
theorem dX5_expectWord_4 : decode cX5_expectWord 4 = .ok (.aload_n 1, 1) := by decide +kernel
theorem dX5_expectWord_5 : decode cX5_expectWord 5 = .ok (.if_acmp .ne 10, 3) := by decide +kernel
theorem dX5_expectWord_8 : decode cX5_expectWord 8 = .ok (.aload_n 0, 1) := by decide +kernel
theorem dX5_expectWord_9 : decode cX5_expectWord 9 = .ok (.invokevirtual 25, 3) := by decide +kernel
theorem dX5_expectWord_12 : decode cX5_expectWord 12 = .ok (.goto 8, 3) := by decide +kernel
theorem dX5_expectWord_15 : decode cX5_expectWord 15 = .ok (.aload_n 0, 1) := by decide +kernel
theorem dX5_expectWord_16 : decode cX5_expectWord 16 = .ok (.iconst 1, 1) := by decide +kernel
theorem dX5_expectWord_17 : decode cX5_expectWord 17 = .ok (.invokevirtual 84, 3) := by decide +kernel
theorem dX5_expectWord_20 : decode cX5_expectWord 20 = .ok (.return_, 1) := by decide +kernel
noncomputable def FX5_expectWord (a0 : Nat) (p1 : Option (Fin 23)) : PP Unit := bd (gW) (fun x1 => bd (if x1 = p1 then bd (FX5_advance a0) (fun (_ : Unit) => pu ()) else bd (FX5_fail a0 (1 : Int32)) (fun (_ : Unit) => pu ()) : PP (Unit)) (fun (v4 : Unit) => pu ()))
set_option maxHeartbeats 4000000 in
set_option maxRecDepth 100000 in
theorem SX5_expectWord {l : Launch} {K : KK} {n : Nat} {hn : 270 ≤ n} (a0 : Nat) (p1 : Option (Fin 23)) (h0 : ob a0 5) : CT l K n 8 mX5_expectWord [.ref (K.2.1 + a0), wr K p1] enU (FX5_expectWord a0 p1) := by
  refine CT.of2 (lv2 := [(0, .ref (K.2.1 + a0)), (1, wr K p1)]) (by decide) rfl hn (by cases p1 <;> exact Nat.le_of_ble_eq_true rfl) (by cases p1 <;> rfl) (rp_id ?_)
  unfold FX5_expectWord
  refine rp_aload_n 0 dX5_expectWord_0 rfl ?_
  refine rp_getW fi_X5_28 h0 rfl dX5_expectWord_1 (fun x1 => ?_)
  refine rp_wload_n 1 dX5_expectWord_4 rfl ?_
  refine rp_as ?_
  refine rp_join 20 (fun (v4 : Unit) => []) (fun v4 => []) (fun v4 => ?_) (fun hJ20 => ?_)
  · exact rp_pu (rp_vret rfl dX5_expectWord_20)
  refine rp_acmp_ne 15 dX5_expectWord_5 (by decide) ?_ ?_
  · refine rp_aload_n 0 dX5_expectWord_15 rfl ?_
    refine rp_iconst (1 : Int32) dX5_expectWord_16 (by decide) ?_
    refine rp_callVv [.int (1 : Int32)] (SX5_fail (hn := hn) a0 (1 : Int32) h0) cvX5_fail (mw (i := 614) (by decide +kernel)) (by omega) h0 (by decide) rfl rfl rfl (Nat.le_of_ble_eq_true rfl) dX5_expectWord_17 (fun x2 => ?_)
    exact rp_sub [] rfl (rp_pu (hJ20 ()))
  · refine rp_aload_n 0 dX5_expectWord_8 rfl ?_
    refine rp_callVv [] (SX5_advance (hn := hn) a0 h0) cvX5_advance (mw (i := 442) (by decide +kernel)) (by omega) h0 (by decide) rfl rfl rfl (Nat.le_of_ble_eq_true rfl) dX5_expectWord_9 (fun x3 => ?_)
    refine rp_goto 20 dX5_expectWord_12 (by decide) ?_
    exact rp_sub [] rfl (rp_pu (hJ20 ()))

theorem dX5_expectSign_0 : decode cX5_expectSign 0 = .ok (.aload_n 0, 1) := by decide +kernel
theorem dX5_expectSign_1 : decode cX5_expectSign 1 = .ok (.getfield 46, 3) := by decide +kernel
theorem dX5_expectSign_4 : decode cX5_expectSign 4 = .ok (.iload_n 1, 1) := by decide +kernel
theorem dX5_expectSign_5 : decode cX5_expectSign 5 = .ok (.if_icmp .ne 10, 3) := by decide +kernel
theorem dX5_expectSign_8 : decode cX5_expectSign 8 = .ok (.aload_n 0, 1) := by decide +kernel
theorem dX5_expectSign_9 : decode cX5_expectSign 9 = .ok (.invokevirtual 25, 3) := by decide +kernel
theorem dX5_expectSign_12 : decode cX5_expectSign 12 = .ok (.goto 8, 3) := by decide +kernel
theorem dX5_expectSign_15 : decode cX5_expectSign 15 = .ok (.aload_n 0, 1) := by decide +kernel
theorem dX5_expectSign_16 : decode cX5_expectSign 16 = .ok (.iconst 1, 1) := by decide +kernel
theorem dX5_expectSign_17 : decode cX5_expectSign 17 = .ok (.invokevirtual 84, 3) := by decide +kernel
theorem dX5_expectSign_20 : decode cX5_expectSign 20 = .ok (.return_, 1) := by decide +kernel
noncomputable def FX5_expectSign (a0 : Nat) (p1 : Int32) : PP Unit := bd (gI a0 2) (fun x1 => bd (if x1 = p1 then bd (FX5_advance a0) (fun (_ : Unit) => pu ()) else bd (FX5_fail a0 (1 : Int32)) (fun (_ : Unit) => pu ()) : PP (Unit)) (fun (v4 : Unit) => pu ()))
set_option maxHeartbeats 4000000 in
set_option maxRecDepth 100000 in
theorem SX5_expectSign {l : Launch} {K : KK} {n : Nat} {hn : 270 ≤ n} (a0 : Nat) (p1 : Int32) (h0 : ob a0 5) : CT l K n 8 mX5_expectSign [.ref (K.2.1 + a0), .int p1] enU (FX5_expectSign a0 p1) := by
  refine CT.of2 (lv2 := [(0, .ref (K.2.1 + a0)), (1, .int p1)]) (by decide) rfl hn (Nat.le_of_ble_eq_true rfl) rfl (rp_id ?_)
  unfold FX5_expectSign
  refine rp_aload_n 0 dX5_expectSign_0 rfl ?_
  refine rp_getI fi_X5_46 h0 rfl dX5_expectSign_1 (fun x1 => ?_)
  refine rp_iload_n 1 dX5_expectSign_4 rfl ?_
  refine rp_as ?_
  refine rp_join 20 (fun (v4 : Unit) => []) (fun v4 => []) (fun v4 => ?_) (fun hJ20 => ?_)
  · exact rp_pu (rp_vret rfl dX5_expectSign_20)
  refine rp_icmp_ne 15 dX5_expectSign_5 (by decide) ?_ ?_
  · refine rp_aload_n 0 dX5_expectSign_15 rfl ?_
    refine rp_iconst (1 : Int32) dX5_expectSign_16 (by decide) ?_
    refine rp_callVv [.int (1 : Int32)] (SX5_fail (hn := hn) a0 (1 : Int32) h0) cvX5_fail (mw (i := 614) (by decide +kernel)) (by omega) h0 (by decide) rfl rfl rfl (Nat.le_of_ble_eq_true rfl) dX5_expectSign_17 (fun x2 => ?_)
    exact rp_sub [] rfl (rp_pu (hJ20 ()))
  · refine rp_aload_n 0 dX5_expectSign_8 rfl ?_
    refine rp_callVv [] (SX5_advance (hn := hn) a0 h0) cvX5_advance (mw (i := 442) (by decide +kernel)) (by omega) h0 (by decide) rfl rfl rfl (Nat.le_of_ble_eq_true rfl) dX5_expectSign_9 (fun x3 => ?_)
    refine rp_goto 20 dX5_expectSign_12 (by decide) ?_
    exact rp_sub [] rfl (rp_pu (hJ20 ()))

theorem dX5_expectNumber_0 : decode cX5_expectNumber 0 = .ok (.aload_n 0, 1) := by decide +kernel
theorem dX5_expectNumber_1 : decode cX5_expectNumber 1 = .ok (.getfield 36, 3) := by decide +kernel
theorem dX5_expectNumber_4 : decode cX5_expectNumber 4 = .ok (.istore_n 3, 1) := by decide +kernel
theorem dX5_expectNumber_5 : decode cX5_expectNumber 5 = .ok (.aload_n 0, 1) := by decide +kernel
theorem dX5_expectNumber_6 : decode cX5_expectNumber 6 = .ok (.getfield 46, 3) := by decide +kernel
theorem dX5_expectNumber_9 : decode cX5_expectNumber 9 = .ok (.iconst 3, 1) := by decide +kernel
theorem dX5_expectNumber_10 : decode cX5_expectNumber 10 = .ok (.if_icmp .eq 11, 3) := by decide +kernel
theorem dX5_expectNumber_13 : decode cX5_expectNumber 13 = .ok (.aload_n 0, 1) := by decide +kernel
theorem dX5_expectNumber_14 : decode cX5_expectNumber 14 = .ok (.iconst 1, 1) := by decide +kernel
theorem dX5_expectNumber_15 : decode cX5_expectNumber 15 = .ok (.invokevirtual 84, 3) := by decide +kernel
theorem dX5_expectNumber_18 : decode cX5_expectNumber 18 = .ok (.goto 25, 3) := by decide +kernel
theorem dX5_expectNumber_21 : decode cX5_expectNumber 21 = .ok (.iload_n 3, 1) := by decide +kernel
theorem dX5_expectNumber_22 : decode cX5_expectNumber 22 = .ok (.iload_n 1, 1) := by decide +kernel
theorem dX5_expectNumber_23 : decode cX5_expectNumber 23 = .ok (.if_icmp .lt 8, 3) := by decide +kernel
theorem dX5_expectNumber_26 : decode cX5_expectNumber 26 = .ok (.iload_n 3, 1) := by decide +kernel
theorem dX5_expectNumber_27 : decode cX5_expectNumber 27 = .ok (.iload_n 2, 1) := by decide +kernel
theorem dX5_expectNumber_28 : decode cX5_expectNumber 28 = .ok (.if_icmp .le 11, 3) := by decide +kernel
theorem dX5_expectNumber_31 : decode cX5_expectNumber 31 = .ok (.aload_n 0, 1) := by decide +kernel
theorem dX5_expectNumber_32 : decode cX5_expectNumber 32 = .ok (.iconst 4, 1) := by decide +kernel
theorem dX5_expectNumber_33 : decode cX5_expectNumber 33 = .ok (.invokevirtual 84, 3) := by decide +kernel
theorem dX5_expectNumber_36 : decode cX5_expectNumber 36 = .ok (.goto 7, 3) := by decide +kernel
theorem dX5_expectNumber_39 : decode cX5_expectNumber 39 = .ok (.aload_n 0, 1) := by decide +kernel
theorem dX5_expectNumber_40 : decode cX5_expectNumber 40 = .ok (.invokevirtual 25, 3) := by decide +kernel
theorem dX5_expectNumber_43 : decode cX5_expectNumber 43 = .ok (.iload_n 3, 1) := by decide +kernel
theorem dX5_expectNumber_44 : decode cX5_expectNumber 44 = .ok (.ireturn, 1) := by decide +kernel
noncomputable def FX5_expectNumber (a0 : Nat) (p1 : Int32) (p2 : Int32) : PP Int32 := bd (gI a0 5) (fun x1 => bd (gI a0 2) (fun x2 => bd (if x2 = (3 : Int32) then if x1 < p1 then bd (FX5_fail a0 (4 : Int32)) (fun (_ : Unit) => pu ()) else if x1 ≤ p2 then bd (FX5_advance a0) (fun (_ : Unit) => pu ()) else bd (FX5_fail a0 (4 : Int32)) (fun (_ : Unit) => pu ()) else bd (FX5_fail a0 (1 : Int32)) (fun (_ : Unit) => pu ()) : PP (Unit)) (fun (v7 : Unit) => pu x1)))
set_option maxHeartbeats 4000000 in
set_option maxRecDepth 100000 in
theorem SX5_expectNumber {l : Launch} {K : KK} {n : Nat} {hn : 270 ≤ n} (a0 : Nat) (p1 : Int32) (p2 : Int32) (h0 : ob a0 5) : CT l K n 8 mX5_expectNumber [.ref (K.2.1 + a0), .int p1, .int p2] enI (FX5_expectNumber a0 p1 p2) := by
  refine CT.of2 (lv2 := [(0, .ref (K.2.1 + a0)), (1, .int p1), (2, .int p2)]) (by decide) rfl hn (Nat.le_of_ble_eq_true rfl) rfl (rp_id ?_)
  unfold FX5_expectNumber
  refine rp_aload_n 0 dX5_expectNumber_0 rfl ?_
  refine rp_getI fi_X5_36 h0 rfl dX5_expectNumber_1 (fun x1 => ?_)
  refine rp_istore_n [(3, .int x1), (0, .ref (K.2.1 + a0)), (1, .int p1), (2, .int p2)] dX5_expectNumber_4 (by decide) rfl ?_
  refine rp_aload_n 1 dX5_expectNumber_5 rfl ?_
  refine rp_getI fi_X5_46 h0 rfl dX5_expectNumber_6 (fun x2 => ?_)
  refine rp_iconst (3 : Int32) dX5_expectNumber_9 (by decide) ?_
  refine rp_as ?_
  refine rp_join 43 (fun (v7 : Unit) => [(3, .int x1)]) (fun v7 => []) (fun v7 => ?_) (fun hJ43 => ?_)
  · refine rp_iload_n 0 dX5_expectNumber_43 rfl ?_
    exact rp_pu (rp_iret rfl dX5_expectNumber_44)
  refine rp_icmp_eq 21 dX5_expectNumber_10 (by decide) ?_ ?_
  · refine rp_iload_n 0 dX5_expectNumber_21 rfl ?_
    refine rp_iload_n 2 dX5_expectNumber_22 rfl ?_
    refine rp_icmp_lt 31 dX5_expectNumber_23 (by decide) ?_ ?_
    · refine rp_aload_n 1 dX5_expectNumber_31 rfl ?_
      refine rp_iconst (4 : Int32) dX5_expectNumber_32 (by decide) ?_
      refine rp_callVv [.int (4 : Int32)] (SX5_fail (hn := hn) a0 (4 : Int32) h0) cvX5_fail (mw (i := 614) (by decide +kernel)) (by omega) h0 (by decide) rfl rfl rfl (Nat.le_of_ble_eq_true rfl) dX5_expectNumber_33 (fun x3 => ?_)
      refine rp_goto 43 dX5_expectNumber_36 (by decide) ?_
      exact rp_sub [0] rfl (rp_pu (hJ43 ()))
    · refine rp_iload_n 0 dX5_expectNumber_26 rfl ?_
      refine rp_iload_n 3 dX5_expectNumber_27 rfl ?_
      refine rp_icmp_le 39 dX5_expectNumber_28 (by decide) ?_ ?_
      · refine rp_aload_n 1 dX5_expectNumber_39 rfl ?_
        refine rp_callVv [] (SX5_advance (hn := hn) a0 h0) cvX5_advance (mw (i := 442) (by decide +kernel)) (by omega) h0 (by decide) rfl rfl rfl (Nat.le_of_ble_eq_true rfl) dX5_expectNumber_40 (fun x4 => ?_)
        exact rp_sub [0] rfl (rp_pu (hJ43 ()))
      · refine rp_aload_n 1 dX5_expectNumber_31 rfl ?_
        refine rp_iconst (4 : Int32) dX5_expectNumber_32 (by decide) ?_
        refine rp_callVv [.int (4 : Int32)] (SX5_fail (hn := hn) a0 (4 : Int32) h0) cvX5_fail (mw (i := 614) (by decide +kernel)) (by omega) h0 (by decide) rfl rfl rfl (Nat.le_of_ble_eq_true rfl) dX5_expectNumber_33 (fun x5 => ?_)
        refine rp_goto 43 dX5_expectNumber_36 (by decide) ?_
        exact rp_sub [0] rfl (rp_pu (hJ43 ()))
  · refine rp_aload_n 1 dX5_expectNumber_13 rfl ?_
    refine rp_iconst (1 : Int32) dX5_expectNumber_14 (by decide) ?_
    refine rp_callVv [.int (1 : Int32)] (SX5_fail (hn := hn) a0 (1 : Int32) h0) cvX5_fail (mw (i := 614) (by decide +kernel)) (by omega) h0 (by decide) rfl rfl rfl (Nat.le_of_ble_eq_true rfl) dX5_expectNumber_15 (fun x6 => ?_)
    refine rp_goto 43 dX5_expectNumber_18 (by decide) ?_
    exact rp_sub [0] rfl (rp_pu (hJ43 ()))

theorem dX3_readRow_0 : decode cX3_readRow 0 = .ok (.aload_n 0, 1) := by decide +kernel
theorem dX3_readRow_1 : decode cX3_readRow 1 = .ok (.getfield 9, 3) := by decide +kernel
theorem dX3_readRow_4 : decode cX3_readRow 4 = .ok (.aload_n 0, 1) := by decide +kernel
theorem dX3_readRow_5 : decode cX3_readRow 5 = .ok (.getfield 30, 3) := by decide +kernel
theorem dX3_readRow_8 : decode cX3_readRow 8 = .ok (.iload_n 3, 1) := by decide +kernel
theorem dX3_readRow_9 : decode cX3_readRow 9 = .ok (.iastore, 1) := by decide +kernel
theorem dX3_readRow_10 : decode cX3_readRow 10 = .ok (.aload_n 1, 1) := by decide +kernel
theorem dX3_readRow_11 : decode cX3_readRow 11 = .ok (.invokevirtual 76, 3) := by decide +kernel
theorem dX3_readRow_14 : decode cX3_readRow 14 = .ok (.iload_n 3, 1) := by decide +kernel
theorem dX3_readRow_15 : decode cX3_readRow 15 = .ok (.iconst 3, 1) := by decide +kernel
theorem dX3_readRow_16 : decode cX3_readRow 16 = .ok (.if_icmp .eq 28, 3) := by decide +kernel
theorem dX3_readRow_19 : decode cX3_readRow 19 = .ok (.aload_n 0, 1) := by decide +kernel
theorem dX3_readRow_20 : decode cX3_readRow 20 = .ok (.getfield 15, 3) := by decide +kernel
theorem dX3_readRow_23 : decode cX3_readRow 23 = .ok (.aload_n 0, 1) := by decide +kernel
theorem dX3_readRow_24 : decode cX3_readRow 24 = .ok (.getfield 30, 3) := by decide +kernel
theorem dX3_readRow_27 : decode cX3_readRow 27 = .ok (.aload_n 1, 1) := by decide +kernel
theorem dX3_readRow_28 : decode cX3_readRow 28 = .ok (.aload_n 2, 1) := by decide +kernel
theorem dX3_readRow_29 : decode cX3_readRow 29 = .ok (.getfield 79, 3) := by decide +kernel
theorem dX3_readRow_32 : decode cX3_readRow 32 = .ok (.aload_n 2, 1) := by decide +kernel
theorem dX3_readRow_33 : decode cX3_readRow 33 = .ok (.getfield 85, 3) := by decide +kernel
theorem dX3_readRow_36 : decode cX3_readRow 36 = .ok (.invokevirtual 87, 3) := by decide +kernel
theorem dX3_readRow_39 : decode cX3_readRow 39 = .ok (.iastore, 1) := by decide +kernel
theorem dX3_readRow_40 : decode cX3_readRow 40 = .ok (.aload_n 1, 1) := by decide +kernel
theorem dX3_readRow_41 : decode cX3_readRow 41 = .ok (.invokevirtual 76, 3) := by decide +kernel
theorem dX3_readRow_44 : decode cX3_readRow 44 = .ok (.iload_n 3, 1) := by decide +kernel
theorem dX3_readRow_45 : decode cX3_readRow 45 = .ok (.ifCond .ne 43, 3) := by decide +kernel
theorem dX3_readRow_48 : decode cX3_readRow 48 = .ok (.aload_n 0, 1) := by decide +kernel
theorem dX3_readRow_49 : decode cX3_readRow 49 = .ok (.getfield 18, 3) := by decide +kernel
theorem dX3_readRow_52 : decode cX3_readRow 52 = .ok (.aload_n 0, 1) := by decide +kernel
theorem dX3_readRow_53 : decode cX3_readRow 53 = .ok (.getfield 30, 3) := by decide +kernel
theorem dX3_readRow_56 : decode cX3_readRow 56 = .ok (.aload_n 1, 1) := by decide +kernel
theorem dX3_readRow_57 : decode cX3_readRow 57 = .ok (.aload_n 2, 1) := by decide +kernel
theorem dX3_readRow_58 : decode cX3_readRow 58 = .ok (.getfield 91, 3) := by decide +kernel
theorem dX3_readRow_61 : decode cX3_readRow 61 = .ok (.aload_n 2, 1) := by decide +kernel
theorem dX3_readRow_62 : decode cX3_readRow 62 = .ok (.getfield 94, 3) := by decide +kernel
theorem dX3_readRow_65 : decode cX3_readRow 65 = .ok (.invokevirtual 87, 3) := by decide +kernel
theorem dX3_readRow_68 : decode cX3_readRow 68 = .ok (.iastore, 1) := by decide +kernel
theorem dX3_readRow_69 : decode cX3_readRow 69 = .ok (.aload_n 1, 1) := by decide +kernel
theorem dX3_readRow_70 : decode cX3_readRow 70 = .ok (.invokevirtual 76, 3) := by decide +kernel
theorem dX3_readRow_73 : decode cX3_readRow 73 = .ok (.aload_n 0, 1) := by decide +kernel
theorem dX3_readRow_74 : decode cX3_readRow 74 = .ok (.getfield 21, 3) := by decide +kernel
theorem dX3_readRow_77 : decode cX3_readRow 77 = .ok (.aload_n 0, 1) := by decide +kernel
theorem dX3_readRow_78 : decode cX3_readRow 78 = .ok (.getfield 30, 3) := by decide +kernel
theorem dX3_readRow_81 : decode cX3_readRow 81 = .ok (.aload_n 1, 1) := by decide +kernel
theorem dX3_readRow_82 : decode cX3_readRow 82 = .ok (.iconst 1, 1) := by decide +kernel
theorem dX3_readRow_83 : decode cX3_readRow 83 = .ok (.iconst 3, 1) := by decide +kernel
theorem dX3_readRow_84 : decode cX3_readRow 84 = .ok (.invokevirtual 96, 3) := by decide +kernel
theorem dX3_readRow_87 : decode cX3_readRow 87 = .ok (.iastore, 1) := by decide +kernel
theorem dX3_readRow_88 : decode cX3_readRow 88 = .ok (.aload_n 1, 1) := by decide +kernel
theorem dX3_readRow_89 : decode cX3_readRow 89 = .ok (.bipush 59, 2) := by decide +kernel
theorem dX3_readRow_91 : decode cX3_readRow 91 = .ok (.invokevirtual 100, 3) := by decide +kernel
theorem dX3_readRow_94 : decode cX3_readRow 94 = .ok (.aload_n 0, 1) := by decide +kernel
theorem dX3_readRow_95 : decode cX3_readRow 95 = .ok (.dup, 1) := by decide +kernel
theorem dX3_readRow_96 : decode cX3_readRow 96 = .ok (.getfield 30, 3) := by decide +kernel
theorem dX3_readRow_99 : decode cX3_readRow 99 = .ok (.iconst 1, 1) := by decide +kernel
theorem dX3_readRow_100 : decode cX3_readRow 100 = .ok (.iadd, 1) := by decide +kernel
theorem dX3_readRow_101 : decode cX3_readRow 101 = .ok (.putfield 30, 3) := by decide +kernel
theorem dX3_readRow_104 : decode cX3_readRow 104 = .ok (.return_, 1) := by decide +kernel
noncomputable def FX3_readRow (a0 : Nat) (p1 : Nat) (p2 : Nat) (p3 : Int32) : PP Unit := bd (gI a0 4) (fun x1 => bd (uI (rf a0 0) 40 x1 p3) (fun (_ : Unit) => bd (FX5_advance p1) (fun (_ : Unit) => bd (if p3 = (3 : Int32) then pu () else bd (gI a0 4) (fun x3 => bd (gI p2 11) (fun x4 => bd (FX5_findName p1 (rf p2 2) x4 6) (fun x5 => bd (uI (rf a0 1) 40 x3 x5) (fun (_ : Unit) => bd (FX5_advance p1) (fun (_ : Unit) => pu ()))))) : PP (Unit)) (fun (v7 : Unit) => bd (if p3 = 0 then bd (gI a0 4) (fun x8 => bd (gI p2 9) (fun x9 => bd (FX5_findName p1 (rf p2 0) x9 5) (fun x10 => bd (uI (rf a0 2) 40 x8 x10) (fun (_ : Unit) => bd (FX5_advance p1) (fun (_ : Unit) => bd (gI a0 4) (fun x12 => bd (FX5_expectNumber p1 (1 : Int32) (3 : Int32)) (fun x13 => bd (uI (rf a0 3) 40 x12 x13) (fun (_ : Unit) => pu ())))))))) else pu () : PP (Unit)) (fun (v14 : Unit) => bd (FX5_expectSign p1 (59 : Int32)) (fun (_ : Unit) => bd (gI a0 4) (fun x16 => bd (sI a0 4 (x16 + (1 : Int32))) (fun (_ : Unit) => pu ()))))))))
set_option maxHeartbeats 4000000 in
set_option maxRecDepth 100000 in
theorem SX3_readRow {l : Launch} {K : KK} {n : Nat} {hn : 270 ≤ n} (a0 : Nat) (p1 : Nat) (p2 : Nat) (p3 : Int32) (h0 : ob a0 3) (h_p1 : ob p1 5) (h_p2 : ob p2 7) : CT l K n 9 mX3_readRow [.ref (K.2.1 + a0), .ref (K.2.1 + p1), .ref (K.2.1 + p2), .int p3] enU (FX3_readRow a0 p1 p2 p3) := by
  refine CT.of2 (lv2 := [(0, .ref (K.2.1 + a0)), (1, .ref (K.2.1 + p1)), (2, .ref (K.2.1 + p2)), (3, .int p3)]) (by decide) rfl hn (Nat.le_of_ble_eq_true rfl) rfl (rp_id ?_)
  unfold FX3_readRow
  refine rp_aload_n 0 dX3_readRow_0 rfl ?_
  refine rp_getR fi_X3_9 h0 rfl dX3_readRow_1 ?_
  refine rp_aload_n 0 dX3_readRow_4 rfl ?_
  refine rp_getI fi_X3_30 h0 rfl dX3_readRow_5 (fun x1 => ?_)
  refine rp_iload_n 3 dX3_readRow_8 rfl ?_
  refine rp_iast (tX3_0 h0) dX3_readRow_9 ?_
  refine rp_aload_n 1 dX3_readRow_10 rfl ?_
  refine rp_callVv [] (SX5_advance (hn := hn) p1 h_p1) cvX5_advance (mw (i := 769) (by decide +kernel)) (by omega) h_p1 (by decide) rfl rfl rfl (Nat.le_of_ble_eq_true rfl) dX3_readRow_11 (fun x2 => ?_)
  refine rp_iload_n 3 dX3_readRow_14 rfl ?_
  refine rp_iconst (3 : Int32) dX3_readRow_15 (by decide) ?_
  refine rp_as ?_
  refine rp_join 44 (fun (v7 : Unit) => [(0, .ref (K.2.1 + a0)), (1, .ref (K.2.1 + p1)), (2, .ref (K.2.1 + p2)), (3, .int p3)]) (fun v7 => []) (fun v7 => ?_) (fun hJ44 => ?_)
  · refine rp_iload_n 3 dX3_readRow_44 rfl ?_
    refine rp_as ?_
    refine rp_join 88 (fun (v14 : Unit) => [(0, .ref (K.2.1 + a0)), (1, .ref (K.2.1 + p1))]) (fun v14 => []) (fun v14 => ?_) (fun hJ88 => ?_)
    · refine rp_aload_n 1 dX3_readRow_88 rfl ?_
      refine rp_bipush (59 : Int32) dX3_readRow_89 (by decide) ?_
      refine rp_callVv [.int (59 : Int32)] (SX5_expectSign (hn := hn) p1 (59 : Int32) h_p1) cvX5_expectSign (mw (i := 772) (by decide +kernel)) (by omega) h_p1 (by decide) rfl rfl rfl (Nat.le_of_ble_eq_true rfl) dX3_readRow_91 (fun x15 => ?_)
      refine rp_aload_n 0 dX3_readRow_94 rfl ?_
      refine rp_dup dX3_readRow_95 rfl ?_
      refine rp_getI fi_X3_30 h0 rfl dX3_readRow_96 (fun x16 => ?_)
      refine rp_iconst (1 : Int32) dX3_readRow_99 (by decide) ?_
      refine rp_iadd dX3_readRow_100 ?_
      refine rp_putI fi_X3_30 fp_X3_4 h0 rfl dX3_readRow_101 ?_
      exact rp_pu (rp_vret rfl dX3_readRow_104)
    refine rp_if_ne 88 dX3_readRow_45 (by decide) ?_ ?_
    · exact rp_sub [0, 1] rfl (rp_pu (hJ88 ()))
    · refine rp_aload_n 0 dX3_readRow_48 rfl ?_
      refine rp_getR fi_X3_18 h0 rfl dX3_readRow_49 ?_
      refine rp_aload_n 0 dX3_readRow_52 rfl ?_
      refine rp_getI fi_X3_30 h0 rfl dX3_readRow_53 (fun x8 => ?_)
      refine rp_aload_n 1 dX3_readRow_56 rfl ?_
      refine rp_aload_n 2 dX3_readRow_57 rfl ?_
      refine rp_getR fi_X3_91 h_p2 rfl dX3_readRow_58 ?_
      refine rp_aload_n 2 dX3_readRow_61 rfl ?_
      refine rp_getI fi_X3_94 h_p2 rfl dX3_readRow_62 (fun x9 => ?_)
      refine rp_callVi [.ref (K.2.1 + (rf p2 0)), .int x9] (SX5_findName (hn := hn) p1 (rf p2 0) x9 5 h_p1 (tX7_0 h_p2)) cvX5_findName (mw (i := 770) (by decide +kernel)) (by omega) h_p1 (by decide) rfl rfl rfl (Nat.le_of_ble_eq_true rfl) dX3_readRow_65 (fun x10 => ?_)
      refine rp_iast (tX3_2 h0) dX3_readRow_68 ?_
      refine rp_aload_n 1 dX3_readRow_69 rfl ?_
      refine rp_callVv [] (SX5_advance (hn := hn) p1 h_p1) cvX5_advance (mw (i := 769) (by decide +kernel)) (by omega) h_p1 (by decide) rfl rfl rfl (Nat.le_of_ble_eq_true rfl) dX3_readRow_70 (fun x11 => ?_)
      refine rp_aload_n 0 dX3_readRow_73 rfl ?_
      refine rp_getR fi_X3_21 h0 rfl dX3_readRow_74 ?_
      refine rp_aload_n 0 dX3_readRow_77 rfl ?_
      refine rp_getI fi_X3_30 h0 rfl dX3_readRow_78 (fun x12 => ?_)
      refine rp_aload_n 1 dX3_readRow_81 rfl ?_
      refine rp_iconst (1 : Int32) dX3_readRow_82 (by decide) ?_
      refine rp_iconst (3 : Int32) dX3_readRow_83 (by decide) ?_
      refine rp_callVi [.int (1 : Int32), .int (3 : Int32)] (SX5_expectNumber (hn := hn) p1 (1 : Int32) (3 : Int32) h_p1) cvX5_expectNumber (mw (i := 771) (by decide +kernel)) (by omega) h_p1 (by decide) rfl rfl rfl (Nat.le_of_ble_eq_true rfl) dX3_readRow_84 (fun x13 => ?_)
      refine rp_iast (tX3_3 h0) dX3_readRow_87 ?_
      exact rp_sub [0, 1] rfl (rp_pu (hJ88 ()))
  refine rp_icmp_eq 44 dX3_readRow_16 (by decide) ?_ ?_
  · exact rp_sub [0, 1, 2, 3] rfl (rp_pu (hJ44 ()))
  · refine rp_aload_n 0 dX3_readRow_19 rfl ?_
    refine rp_getR fi_X3_15 h0 rfl dX3_readRow_20 ?_
    refine rp_aload_n 0 dX3_readRow_23 rfl ?_
    refine rp_getI fi_X3_30 h0 rfl dX3_readRow_24 (fun x3 => ?_)
    refine rp_aload_n 1 dX3_readRow_27 rfl ?_
    refine rp_aload_n 2 dX3_readRow_28 rfl ?_
    refine rp_getR fi_X3_79 h_p2 rfl dX3_readRow_29 ?_
    refine rp_aload_n 2 dX3_readRow_32 rfl ?_
    refine rp_getI fi_X3_85 h_p2 rfl dX3_readRow_33 (fun x4 => ?_)
    refine rp_callVi [.ref (K.2.1 + (rf p2 2)), .int x4] (SX5_findName (hn := hn) p1 (rf p2 2) x4 6 h_p1 (tX7_2 h_p2)) cvX5_findName (mw (i := 770) (by decide +kernel)) (by omega) h_p1 (by decide) rfl rfl rfl (Nat.le_of_ble_eq_true rfl) dX3_readRow_36 (fun x5 => ?_)
    refine rp_iast (tX3_1 h0) dX3_readRow_39 ?_
    refine rp_aload_n 1 dX3_readRow_40 rfl ?_
    refine rp_callVv [] (SX5_advance (hn := hn) p1 h_p1) cvX5_advance (mw (i := 769) (by decide +kernel)) (by omega) h_p1 (by decide) rfl rfl rfl (Nat.le_of_ble_eq_true rfl) dX3_readRow_41 (fun x6 => ?_)
    exact rp_sub [0, 1, 2, 3] rfl (rp_pu (hJ44 ()))

theorem dX3_readFrom_0 : decode cX3_readFrom 0 = .ok (.aload_n 0, 1) := by decide +kernel
theorem dX3_readFrom_1 : decode cX3_readFrom 1 = .ok (.iconst 0, 1) := by decide +kernel
theorem dX3_readFrom_2 : decode cX3_readFrom 2 = .ok (.putfield 30, 3) := by decide +kernel
theorem dX3_readFrom_5 : decode cX3_readFrom 5 = .ok (.aload_n 1, 1) := by decide +kernel
theorem dX3_readFrom_6 : decode cX3_readFrom 6 = .ok (.invokevirtual 34, 3) := by decide +kernel
theorem dX3_readFrom_9 : decode cX3_readFrom 9 = .ok (.iconst 0, 1) := by decide +kernel
theorem dX3_readFrom_10 : decode cX3_readFrom 10 = .ok (.istore_n 3, 1) := by decide +kernel
theorem dX3_readFrom_11 : decode cX3_readFrom 11 = .ok (.iload_n 3, 1) := by decide +kernel
theorem dX3_readFrom_12 : decode cX3_readFrom 12 = .ok (.sipush 1000, 3) := by decide +kernel
theorem dX3_readFrom_15 : decode cX3_readFrom 15 = .ok (.if_icmp .ge 64, 3) := by decide +kernel
theorem dX3_readFrom_18 : decode cX3_readFrom 18 = .ok (.aload_n 1, 1) := by decide +kernel
theorem dX3_readFrom_19 : decode cX3_readFrom 19 = .ok (.getfield 39, 3) := by decide +kernel
theorem dX3_readFrom_22 : decode cX3_readFrom 22 = .ok (.ifCond .eq 57, 3) := by decide +kernel
theorem dX3_readFrom_25 : decode cX3_readFrom 25 = .ok (.aload_n 1, 1) := by decide +kernel
theorem dX3_readFrom_26 : decode cX3_readFrom 26 = .ok (.getfield 42, 3) := by decide +kernel
theorem dX3_readFrom_29 : decode cX3_readFrom 29 = .ok (.invokestatic 46, 3) := by decide +kernel
theorem dX3_readFrom_32 : decode cX3_readFrom 32 = .ok (.istore 4, 2) := by decide +kernel
theorem dX3_readFrom_34 : decode cX3_readFrom 34 = .ok (.iload 4, 2) := by decide +kernel
theorem dX3_readFrom_36 : decode cX3_readFrom 36 = .ok (.iconst (-1), 1) := by decide +kernel
theorem dX3_readFrom_37 : decode cX3_readFrom 37 = .ok (.if_icmp .ne 11, 3) := by decide +kernel
theorem dX3_readFrom_40 : decode cX3_readFrom 40 = .ok (.aload_n 1, 1) := by decide +kernel
theorem dX3_readFrom_41 : decode cX3_readFrom 41 = .ok (.iconst 1, 1) := by decide +kernel
theorem dX3_readFrom_42 : decode cX3_readFrom 42 = .ok (.invokevirtual 50, 3) := by decide +kernel
theorem dX3_readFrom_45 : decode cX3_readFrom 45 = .ok (.goto 28, 3) := by decide +kernel
theorem dX3_readFrom_48 : decode cX3_readFrom 48 = .ok (.aload_n 0, 1) := by decide +kernel
theorem dX3_readFrom_49 : decode cX3_readFrom 49 = .ok (.getfield 30, 3) := by decide +kernel
theorem dX3_readFrom_52 : decode cX3_readFrom 52 = .ok (.bipush 40, 2) := by decide +kernel
theorem dX3_readFrom_54 : decode cX3_readFrom 54 = .ok (.if_icmp .lt 11, 3) := by decide +kernel
theorem dX3_readFrom_57 : decode cX3_readFrom 57 = .ok (.aload_n 1, 1) := by decide +kernel
theorem dX3_readFrom_58 : decode cX3_readFrom 58 = .ok (.iconst 5, 1) := by decide +kernel
theorem dX3_readFrom_59 : decode cX3_readFrom 59 = .ok (.invokevirtual 50, 3) := by decide +kernel
theorem dX3_readFrom_62 : decode cX3_readFrom 62 = .ok (.goto 11, 3) := by decide +kernel
theorem dX3_readFrom_65 : decode cX3_readFrom 65 = .ok (.aload_n 0, 1) := by decide +kernel
theorem dX3_readFrom_66 : decode cX3_readFrom 66 = .ok (.aload_n 1, 1) := by decide +kernel
theorem dX3_readFrom_67 : decode cX3_readFrom 67 = .ok (.aload_n 2, 1) := by decide +kernel
theorem dX3_readFrom_68 : decode cX3_readFrom 68 = .ok (.iload 4, 2) := by decide +kernel
theorem dX3_readFrom_70 : decode cX3_readFrom 70 = .ok (.invokevirtual 54, 3) := by decide +kernel
theorem dX3_readFrom_73 : decode cX3_readFrom 73 = .ok (.iinc 3 1, 3) := by decide +kernel
theorem dX3_readFrom_76 : decode cX3_readFrom 76 = .ok (.goto (-65), 3) := by decide +kernel
theorem dX3_readFrom_79 : decode cX3_readFrom 79 = .ok (.aload_n 1, 1) := by decide +kernel
theorem dX3_readFrom_80 : decode cX3_readFrom 80 = .ok (.invokevirtual 58, 3) := by decide +kernel
theorem dX3_readFrom_83 : decode cX3_readFrom 83 = .ok (.ireturn, 1) := by decide +kernel
noncomputable def FX3_readFrom (a0 : Nat) (p1 : Nat) (p2 : Nat) : PP Int32 := bd (sI a0 4 (0 : Int32)) (fun (_ : Unit) => bd (FX5_startReading p1) (fun (_ : Unit) => bd (it (fun (s2 : Int32) => (if (1000 : Int32) ≤ s2 then pu (Sum.inr ()) else bd (gI p1 2) (fun x3 => if x3 = 0 then pu (Sum.inr ()) else bd (gW) (fun x4 => bd (FX3_deedOf x4) (fun x5 => bd (if x5 = (-1 : Int32) then bd (FX5_fail p1 (1 : Int32)) (fun (_ : Unit) => pu ()) else bd (gI a0 4) (fun x6 => if x6 < (40 : Int32) then bd (FX3_readRow a0 p1 p2 x5) (fun (_ : Unit) => pu ()) else bd (FX5_fail p1 (5 : Int32)) (fun (_ : Unit) => pu ())) : PP (Unit)) (fun (v10 : Unit) => lt (s2 + (1 : Int32)) (fun y11 => pu (Sum.inl y11)))))) : PP ((Int32) ⊕ (Unit)))) FU (0 : Int32)) (fun (v12 : Unit) => bd (FX5_endReading p1) (fun x13 => pu x13))))
set_option maxHeartbeats 4000000 in
set_option maxRecDepth 100000 in
theorem SX3_readFrom {l : Launch} {K : KK} {n : Nat} {hn : 270 ≤ n} (a0 : Nat) (p1 : Nat) (p2 : Nat) (h0 : ob a0 3) (h_p1 : ob p1 5) (h_p2 : ob p2 7) : CT l K n 10 mX3_readFrom [.ref (K.2.1 + a0), .ref (K.2.1 + p1), .ref (K.2.1 + p2)] enI (FX3_readFrom a0 p1 p2) := by
  refine CT.of2 (lv2 := [(0, .ref (K.2.1 + a0)), (1, .ref (K.2.1 + p1)), (2, .ref (K.2.1 + p2))]) (by decide) rfl hn (Nat.le_of_ble_eq_true rfl) rfl (rp_id ?_)
  unfold FX3_readFrom
  refine rp_aload_n 0 dX3_readFrom_0 rfl ?_
  refine rp_iconst (0 : Int32) dX3_readFrom_1 (by decide) ?_
  refine rp_putI fi_X3_30 fp_X3_4 h0 rfl dX3_readFrom_2 ?_
  refine rp_aload_n 1 dX3_readFrom_5 rfl ?_
  refine rp_callVv [] (SX5_startReading (hn := hn) p1 h_p1) cvX5_startReading (mw (i := 752) (by decide +kernel)) (by omega) h_p1 (by decide) rfl rfl rfl (Nat.le_of_ble_eq_true rfl) dX3_readFrom_6 (fun x1 => ?_)
  refine rp_iconst (0 : Int32) dX3_readFrom_9 (by decide) ?_
  refine rp_istore_n [(3, .int (0 : Int32)), (0, .ref (K.2.1 + a0)), (1, .ref (K.2.1 + p1)), (2, .ref (K.2.1 + p2))] dX3_readFrom_10 (by decide) rfl ?_
  refine rp_as ?_
  refine rp_join 79 (fun v12 => [(1, .ref (K.2.1 + p1))]) (fun _ => []) (fun v12 => ?_) (fun hX11_0 => ?_)
  · refine rp_aload_n 0 dX3_readFrom_79 rfl ?_
    refine rp_callVi [] (SX5_endReading (hn := hn) p1 h_p1) cvX5_endReading (mw (i := 773) (by decide +kernel)) (by omega) h_p1 (by decide) rfl rfl rfl (Nat.le_of_ble_eq_true rfl) dX3_readFrom_80 (fun x13 => ?_)
    exact rp_pu (rp_iret rfl dX3_readFrom_83)
  refine rp_sub [1, 2, 3, 0] rfl (rp_it (fun (s2 : Int32) => [(0, .ref (K.2.1 + a0)), (1, .ref (K.2.1 + p1)), (2, .ref (K.2.1 + p2)), (3, .int s2)]) (fun N11 ih11 s2 => ?_) FU (0 : Int32))
  refine rp_iload_n 3 dX3_readFrom_11 rfl ?_
  refine rp_sipush (1000 : Int32) dX3_readFrom_12 (by decide) ?_
  refine rp_icmp_ge 79 dX3_readFrom_15 (by decide) ?_ ?_
  · exact rp_sub [1] rfl (rp_puR (hX11_0 ()))
  · refine rp_aload_n 1 dX3_readFrom_18 rfl ?_
    refine rp_getI fi_X3_39 h_p1 rfl dX3_readFrom_19 (fun x3 => ?_)
    refine rp_if_eq 79 dX3_readFrom_22 (by decide) ?_ ?_
    · exact rp_sub [1] rfl (rp_puR (hX11_0 ()))
    · refine rp_aload_n 1 dX3_readFrom_25 rfl ?_
      refine rp_getW fi_X3_42 h_p1 rfl dX3_readFrom_26 (fun x4 => ?_)
      refine rp_callSi [wr K x4] (SX3_deedOf (hn := hn) x4) csX3_deedOf (mw (i := 753) (by decide +kernel)) (by omega) rfl rfl (Nat.le_of_ble_eq_true rfl) dX3_readFrom_29 (fun x5 => ?_)
      refine rp_istore [(4, .int x5), (0, .ref (K.2.1 + a0)), (1, .ref (K.2.1 + p1)), (2, .ref (K.2.1 + p2)), (3, .int s2)] dX3_readFrom_32 (by decide) rfl ?_
      refine rp_iload 0 dX3_readFrom_34 rfl ?_
      refine rp_iconst (-1 : Int32) dX3_readFrom_36 (by decide) ?_
      refine rp_as ?_
      refine rp_join 73 (fun (v10 : Unit) => [(0, .ref (K.2.1 + a0)), (1, .ref (K.2.1 + p1)), (2, .ref (K.2.1 + p2)), (3, .int s2)]) (fun v10 => []) (fun v10 => ?_) (fun hJ73 => ?_)
      · refine rp_iinc (fun y11 => [(3, .int y11), (0, .ref (K.2.1 + a0)), (1, .ref (K.2.1 + p1)), (2, .ref (K.2.1 + p2))]) 3 dX3_readFrom_73 rfl (by rfl) (by decide) (fun y11 => rfl) (fun y11 => ?_)
        refine rp_goto 11 dX3_readFrom_76 (by decide) ?_
        exact rp_sub [1, 2, 3, 0] rfl (ih11 y11)
      refine rp_icmp_ne 48 dX3_readFrom_37 (by decide) ?_ ?_
      · refine rp_aload_n 1 dX3_readFrom_48 rfl ?_
        refine rp_getI fi_X3_30 h0 rfl dX3_readFrom_49 (fun x6 => ?_)
        refine rp_bipush (40 : Int32) dX3_readFrom_52 (by decide) ?_
        refine rp_icmp_lt 65 dX3_readFrom_54 (by decide) ?_ ?_
        · refine rp_aload_n 1 dX3_readFrom_65 rfl ?_
          refine rp_aload_n 2 dX3_readFrom_66 rfl ?_
          refine rp_aload_n 3 dX3_readFrom_67 rfl ?_
          refine rp_iload 0 dX3_readFrom_68 rfl ?_
          refine rp_callVv [.ref (K.2.1 + p1), .ref (K.2.1 + p2), .int x5] (SX3_readRow (hn := hn) a0 p1 p2 x5 h0 h_p1 h_p2) cvX3_readRow (mw (i := 765) (by decide +kernel)) (by omega) h0 (by decide) rfl rfl rfl (Nat.le_of_ble_eq_true rfl) dX3_readFrom_70 (fun x7 => ?_)
          exact rp_sub [1, 2, 3, 4] rfl (rp_pu (hJ73 ()))
        · refine rp_aload_n 2 dX3_readFrom_57 rfl ?_
          refine rp_iconst (5 : Int32) dX3_readFrom_58 (by decide) ?_
          refine rp_callVv [.int (5 : Int32)] (SX5_fail (hn := hn) p1 (5 : Int32) h_p1) cvX5_fail (mw (i := 764) (by decide +kernel)) (by omega) h_p1 (by decide) rfl rfl rfl (Nat.le_of_ble_eq_true rfl) dX3_readFrom_59 (fun x8 => ?_)
          refine rp_goto 73 dX3_readFrom_62 (by decide) ?_
          exact rp_sub [1, 2, 3, 4] rfl (rp_pu (hJ73 ()))
      · refine rp_aload_n 2 dX3_readFrom_40 rfl ?_
        refine rp_iconst (1 : Int32) dX3_readFrom_41 (by decide) ?_
        refine rp_callVv [.int (1 : Int32)] (SX5_fail (hn := hn) p1 (1 : Int32) h_p1) cvX5_fail (mw (i := 764) (by decide +kernel)) (by omega) h_p1 (by decide) rfl rfl rfl (Nat.le_of_ble_eq_true rfl) dX3_readFrom_42 (fun x9 => ?_)
        refine rp_goto 73 dX3_readFrom_45 (by decide) ?_
        exact rp_sub [1, 2, 3, 4] rfl (rp_pu (hJ73 ()))

theorem dX8_skipUnlessFull_0 : decode cX8_skipUnlessFull 0 = .ok (.iload_n 1, 1) := by decide +kernel
theorem dX8_skipUnlessFull_1 : decode cX8_skipUnlessFull 1 = .ok (.ifCond .eq 14, 3) := by decide +kernel
theorem dX8_skipUnlessFull_4 : decode cX8_skipUnlessFull 4 = .ok (.aload_n 0, 1) := by decide +kernel
theorem dX8_skipUnlessFull_5 : decode cX8_skipUnlessFull 5 = .ok (.getfield 18, 3) := by decide +kernel
theorem dX8_skipUnlessFull_8 : decode cX8_skipUnlessFull 8 = .ok (.iconst 5, 1) := by decide +kernel
theorem dX8_skipUnlessFull_9 : decode cX8_skipUnlessFull 9 = .ok (.invokevirtual 74, 3) := by decide +kernel
theorem dX8_skipUnlessFull_12 : decode cX8_skipUnlessFull 12 = .ok (.goto 10, 3) := by decide +kernel
theorem dX8_skipUnlessFull_15 : decode cX8_skipUnlessFull 15 = .ok (.aload_n 0, 1) := by decide +kernel
theorem dX8_skipUnlessFull_16 : decode cX8_skipUnlessFull 16 = .ok (.getfield 18, 3) := by decide +kernel
theorem dX8_skipUnlessFull_19 : decode cX8_skipUnlessFull 19 = .ok (.invokevirtual 82, 3) := by decide +kernel
theorem dX8_skipUnlessFull_22 : decode cX8_skipUnlessFull 22 = .ok (.return_, 1) := by decide +kernel
noncomputable def FX8_skipUnlessFull (a0 : Nat) (p1 : Int32) : PP Unit := bd (if p1 = 0 then bd (FX5_advance (rf a0 0)) (fun (_ : Unit) => pu ()) else bd (FX5_fail (rf a0 0) (5 : Int32)) (fun (_ : Unit) => pu ()) : PP (Unit)) (fun (v3 : Unit) => pu ())
set_option maxHeartbeats 4000000 in
set_option maxRecDepth 100000 in
theorem SX8_skipUnlessFull {l : Launch} {K : KK} {n : Nat} {hn : 270 ≤ n} (a0 : Nat) (p1 : Int32) (h0 : ob a0 8) : CT l K n 8 mX8_skipUnlessFull [.ref (K.2.1 + a0), .int p1] enU (FX8_skipUnlessFull a0 p1) := by
  refine CT.of2 (lv2 := [(0, .ref (K.2.1 + a0)), (1, .int p1)]) (by decide) rfl hn (Nat.le_of_ble_eq_true rfl) rfl (rp_id ?_)
  unfold FX8_skipUnlessFull
  refine rp_iload_n 1 dX8_skipUnlessFull_0 rfl ?_
  refine rp_as ?_
  refine rp_join 22 (fun (v3 : Unit) => []) (fun v3 => []) (fun v3 => ?_) (fun hJ22 => ?_)
  · exact rp_pu (rp_vret rfl dX8_skipUnlessFull_22)
  refine rp_if_eq 15 dX8_skipUnlessFull_1 (by decide) ?_ ?_
  · refine rp_aload_n 0 dX8_skipUnlessFull_15 rfl ?_
    refine rp_getR fi_X8_18 h0 rfl dX8_skipUnlessFull_16 ?_
    refine rp_callVv [] (SX5_advance (hn := hn) (rf a0 0) (tX8_0 h0)) cvX5_advance (mw (i := 592) (by decide +kernel)) (by omega) (tX8_0 h0) (by decide) rfl rfl rfl (Nat.le_of_ble_eq_true rfl) dX8_skipUnlessFull_19 (fun x1 => ?_)
    exact rp_sub [] rfl (rp_pu (hJ22 ()))
  · refine rp_aload_n 0 dX8_skipUnlessFull_4 rfl ?_
    refine rp_getR fi_X8_18 h0 rfl dX8_skipUnlessFull_5 ?_
    refine rp_iconst (5 : Int32) dX8_skipUnlessFull_8 (by decide) ?_
    refine rp_callVv [.int (5 : Int32)] (SX5_fail (hn := hn) (rf a0 0) (5 : Int32) (tX8_0 h0)) cvX5_fail (mw (i := 588) (by decide +kernel)) (by omega) (tX8_0 h0) (by decide) rfl rfl rfl (Nat.le_of_ble_eq_true rfl) dX8_skipUnlessFull_9 (fun x2 => ?_)
    refine rp_goto 22 dX8_skipUnlessFull_12 (by decide) ?_
    exact rp_sub [] rfl (rp_pu (hJ22 ()))

theorem dX8_newName_0 : decode cX8_newName 0 = .ok (.aload_n 0, 1) := by decide +kernel
theorem dX8_newName_1 : decode cX8_newName 1 = .ok (.getfield 18, 3) := by decide +kernel
theorem dX8_newName_4 : decode cX8_newName 4 = .ok (.getfield 85, 3) := by decide +kernel
theorem dX8_newName_7 : decode cX8_newName 7 = .ok (.lstore_n 1, 1) := by decide +kernel
theorem dX8_newName_8 : decode cX8_newName 8 = .ok (.aload_n 0, 1) := by decide +kernel
theorem dX8_newName_9 : decode cX8_newName 9 = .ok (.getfield 18, 3) := by decide +kernel
theorem dX8_newName_12 : decode cX8_newName 12 = .ok (.invokevirtual 89, 3) := by decide +kernel
theorem dX8_newName_15 : decode cX8_newName 15 = .ok (.ifCond .ne 14, 3) := by decide +kernel
theorem dX8_newName_18 : decode cX8_newName 18 = .ok (.aload_n 0, 1) := by decide +kernel
theorem dX8_newName_19 : decode cX8_newName 19 = .ok (.getfield 18, 3) := by decide +kernel
theorem dX8_newName_22 : decode cX8_newName 22 = .ok (.iconst 1, 1) := by decide +kernel
theorem dX8_newName_23 : decode cX8_newName 23 = .ok (.invokevirtual 74, 3) := by decide +kernel
theorem dX8_newName_26 : decode cX8_newName 26 = .ok (.goto 32, 3) := by decide +kernel
theorem dX8_newName_29 : decode cX8_newName 29 = .ok (.aload_n 0, 1) := by decide +kernel
theorem dX8_newName_30 : decode cX8_newName 30 = .ok (.getfield 12, 3) := by decide +kernel
theorem dX8_newName_33 : decode cX8_newName 33 = .ok (.lload_n 1, 1) := by decide +kernel
theorem dX8_newName_34 : decode cX8_newName 34 = .ok (.invokevirtual 93, 3) := by decide +kernel
theorem dX8_newName_37 : decode cX8_newName 37 = .ok (.ifCond .eq 14, 3) := by decide +kernel
theorem dX8_newName_40 : decode cX8_newName 40 = .ok (.aload_n 0, 1) := by decide +kernel
theorem dX8_newName_41 : decode cX8_newName 41 = .ok (.getfield 18, 3) := by decide +kernel
theorem dX8_newName_44 : decode cX8_newName 44 = .ok (.iconst 3, 1) := by decide +kernel
theorem dX8_newName_45 : decode cX8_newName 45 = .ok (.invokevirtual 74, 3) := by decide +kernel
theorem dX8_newName_48 : decode cX8_newName 48 = .ok (.goto 10, 3) := by decide +kernel
theorem dX8_newName_51 : decode cX8_newName 51 = .ok (.aload_n 0, 1) := by decide +kernel
theorem dX8_newName_52 : decode cX8_newName 52 = .ok (.getfield 18, 3) := by decide +kernel
theorem dX8_newName_55 : decode cX8_newName 55 = .ok (.invokevirtual 82, 3) := by decide +kernel
theorem dX8_newName_58 : decode cX8_newName 58 = .ok (.lload_n 1, 1) := by decide +kernel
theorem dX8_newName_59 : decode cX8_newName 59 = .ok (.lreturn, 1) := by decide +kernel
noncomputable def FX8_newName (a0 : Nat) : PP Int64 := bd (gL (rf a0 0) 4) (fun x1 => bd (FX5_isName (rf a0 0)) (fun x2 => bd (if ((b2i x2)) = 0 then bd (FX5_fail (rf a0 0) (1 : Int32)) (fun (_ : Unit) => pu ()) else bd (FX7_isTold (rf a0 1) x1) (fun x3 => if ((b2i x3)) = 0 then bd (FX5_advance (rf a0 0)) (fun (_ : Unit) => pu ()) else bd (FX5_fail (rf a0 0) (3 : Int32)) (fun (_ : Unit) => pu ())) : PP (Unit)) (fun (v7 : Unit) => pu x1)))
set_option maxHeartbeats 4000000 in
set_option maxRecDepth 100000 in
theorem SX8_newName {l : Launch} {K : KK} {n : Nat} {hn : 270 ≤ n} (a0 : Nat) (h0 : ob a0 8) : CT l K n 8 mX8_newName [.ref (K.2.1 + a0)] enL (FX8_newName a0) := by
  refine CT.of2 (lv2 := [(0, .ref (K.2.1 + a0))]) (by decide) rfl hn (Nat.le_of_ble_eq_true rfl) rfl (rp_id ?_)
  unfold FX8_newName
  refine rp_aload_n 0 dX8_newName_0 rfl ?_
  refine rp_getR fi_X8_18 h0 rfl dX8_newName_1 ?_
  refine rp_getL fi_X8_85 (tX8_0 h0) rfl dX8_newName_4 (fun x1 => ?_)
  refine rp_lstore_n [(1, .long x1), (0, .ref (K.2.1 + a0))] dX8_newName_7 (by decide) rfl ?_
  refine rp_aload_n 1 dX8_newName_8 rfl ?_
  refine rp_getR fi_X8_18 h0 rfl dX8_newName_9 ?_
  refine rp_callVz [] (SX5_isName (hn := hn) (rf a0 0) (tX8_0 h0)) cvX5_isName (mw (i := 597) (by decide +kernel)) (by omega) (tX8_0 h0) (by decide) rfl rfl rfl (Nat.le_of_ble_eq_true rfl) dX8_newName_12 (fun x2 => ?_)
  refine rp_as ?_
  refine rp_join 58 (fun (v7 : Unit) => [(1, .long x1)]) (fun v7 => []) (fun v7 => ?_) (fun hJ58 => ?_)
  · refine rp_lload_n 0 dX8_newName_58 rfl ?_
    exact rp_pu (rp_lret rfl dX8_newName_59)
  refine rp_if_ne 29 dX8_newName_15 (by decide) ?_ ?_
  · refine rp_aload_n 1 dX8_newName_29 rfl ?_
    refine rp_getR fi_X8_12 h0 rfl dX8_newName_30 ?_
    refine rp_lload_n 0 dX8_newName_33 rfl ?_
    refine rp_callVz [.long x1] (SX7_isTold (hn := hn) (rf a0 1) x1 (tX8_1 h0)) cvX7_isTold (mw (i := 601) (by decide +kernel)) (by omega) (tX8_1 h0) (by decide) rfl rfl rfl (Nat.le_of_ble_eq_true rfl) dX8_newName_34 (fun x3 => ?_)
    refine rp_if_eq 51 dX8_newName_37 (by decide) ?_ ?_
    · refine rp_aload_n 1 dX8_newName_51 rfl ?_
      refine rp_getR fi_X8_18 h0 rfl dX8_newName_52 ?_
      refine rp_callVv [] (SX5_advance (hn := hn) (rf a0 0) (tX8_0 h0)) cvX5_advance (mw (i := 592) (by decide +kernel)) (by omega) (tX8_0 h0) (by decide) rfl rfl rfl (Nat.le_of_ble_eq_true rfl) dX8_newName_55 (fun x4 => ?_)
      exact rp_sub [0] rfl (rp_pu (hJ58 ()))
    · refine rp_aload_n 1 dX8_newName_40 rfl ?_
      refine rp_getR fi_X8_18 h0 rfl dX8_newName_41 ?_
      refine rp_iconst (3 : Int32) dX8_newName_44 (by decide) ?_
      refine rp_callVv [.int (3 : Int32)] (SX5_fail (hn := hn) (rf a0 0) (3 : Int32) (tX8_0 h0)) cvX5_fail (mw (i := 588) (by decide +kernel)) (by omega) (tX8_0 h0) (by decide) rfl rfl rfl (Nat.le_of_ble_eq_true rfl) dX8_newName_45 (fun x5 => ?_)
      refine rp_goto 58 dX8_newName_48 (by decide) ?_
      exact rp_sub [0] rfl (rp_pu (hJ58 ()))
  · refine rp_aload_n 1 dX8_newName_18 rfl ?_
    refine rp_getR fi_X8_18 h0 rfl dX8_newName_19 ?_
    refine rp_iconst (1 : Int32) dX8_newName_22 (by decide) ?_
    refine rp_callVv [.int (1 : Int32)] (SX5_fail (hn := hn) (rf a0 0) (1 : Int32) (tX8_0 h0)) cvX5_fail (mw (i := 588) (by decide +kernel)) (by omega) (tX8_0 h0) (by decide) rfl rfl rfl (Nat.le_of_ble_eq_true rfl) dX8_newName_23 (fun x6 => ?_)
    refine rp_goto 58 dX8_newName_26 (by decide) ?_
    exact rp_sub [0] rfl (rp_pu (hJ58 ()))

theorem dX8_readLine_0 : decode cX8_readLine 0 = .ok (.aload_n 0, 1) := by decide +kernel
theorem dX8_readLine_1 : decode cX8_readLine 1 = .ok (.aload_n 0, 1) := by decide +kernel
theorem dX8_readLine_2 : decode cX8_readLine 2 = .ok (.getfield 12, 3) := by decide +kernel
theorem dX8_readLine_5 : decode cX8_readLine 5 = .ok (.getfield 97, 3) := by decide +kernel
theorem dX8_readLine_8 : decode cX8_readLine 8 = .ok (.iconst 5, 1) := by decide +kernel
theorem dX8_readLine_9 : decode cX8_readLine 9 = .ok (.if_icmp .lt 7, 3) := by decide +kernel
theorem dX8_readLine_12 : decode cX8_readLine 12 = .ok (.iconst 1, 1) := by decide +kernel
theorem dX8_readLine_13 : decode cX8_readLine 13 = .ok (.goto 4, 3) := by decide +kernel
theorem dX8_readLine_16 : decode cX8_readLine 16 = .ok (.iconst 0, 1) := by decide +kernel
theorem dX8_readLine_17 : decode cX8_readLine 17 = .ok (.invokevirtual 100, 3) := by decide +kernel
theorem dX8_readLine_20 : decode cX8_readLine 20 = .ok (.aload_n 0, 1) := by decide +kernel
theorem dX8_readLine_21 : decode cX8_readLine 21 = .ok (.invokevirtual 104, 3) := by decide +kernel
theorem dX8_readLine_24 : decode cX8_readLine 24 = .ok (.lstore_n 1, 1) := by decide +kernel
theorem dX8_readLine_25 : decode cX8_readLine 25 = .ok (.aload_n 0, 1) := by decide +kernel
theorem dX8_readLine_26 : decode cX8_readLine 26 = .ok (.getfield 18, 3) := by decide +kernel
theorem dX8_readLine_29 : decode cX8_readLine 29 = .ok (.getstatic 108, 3) := by decide +kernel
theorem dX8_readLine_32 : decode cX8_readLine 32 = .ok (.invokevirtual 111, 3) := by decide +kernel
theorem dX8_readLine_35 : decode cX8_readLine 35 = .ok (.aload_n 0, 1) := by decide +kernel
theorem dX8_readLine_36 : decode cX8_readLine 36 = .ok (.getfield 18, 3) := by decide +kernel
theorem dX8_readLine_39 : decode cX8_readLine 39 = .ok (.iconst 1, 1) := by decide +kernel
theorem dX8_readLine_40 : decode cX8_readLine 40 = .ok (.bipush 9, 2) := by decide +kernel
theorem dX8_readLine_42 : decode cX8_readLine 42 = .ok (.invokevirtual 115, 3) := by decide +kernel
theorem dX8_readLine_45 : decode cX8_readLine 45 = .ok (.istore_n 3, 1) := by decide +kernel
theorem dX8_readLine_46 : decode cX8_readLine 46 = .ok (.aload_n 0, 1) := by decide +kernel
theorem dX8_readLine_47 : decode cX8_readLine 47 = .ok (.getfield 18, 3) := by decide +kernel
theorem dX8_readLine_50 : decode cX8_readLine 50 = .ok (.bipush 59, 2) := by decide +kernel
theorem dX8_readLine_52 : decode cX8_readLine 52 = .ok (.invokevirtual 119, 3) := by decide +kernel
theorem dX8_readLine_55 : decode cX8_readLine 55 = .ok (.aload_n 0, 1) := by decide +kernel
theorem dX8_readLine_56 : decode cX8_readLine 56 = .ok (.getfield 18, 3) := by decide +kernel
theorem dX8_readLine_59 : decode cX8_readLine 59 = .ok (.getfield 123, 3) := by decide +kernel
theorem dX8_readLine_62 : decode cX8_readLine 62 = .ok (.ifCond .ne 12, 3) := by decide +kernel
theorem dX8_readLine_65 : decode cX8_readLine 65 = .ok (.aload_n 0, 1) := by decide +kernel
theorem dX8_readLine_66 : decode cX8_readLine 66 = .ok (.getfield 12, 3) := by decide +kernel
theorem dX8_readLine_69 : decode cX8_readLine 69 = .ok (.lload_n 1, 1) := by decide +kernel
theorem dX8_readLine_70 : decode cX8_readLine 70 = .ok (.iload_n 3, 1) := by decide +kernel
theorem dX8_readLine_71 : decode cX8_readLine 71 = .ok (.invokevirtual 126, 3) := by decide +kernel
theorem dX8_readLine_74 : decode cX8_readLine 74 = .ok (.return_, 1) := by decide +kernel
noncomputable def FX8_readLine (a0 : Nat) : PP Unit := bd (gI (rf a0 1) 9) (fun x1 => bd (if x1 < (5 : Int32) then pu (0 : Int32) else pu (1 : Int32) : PP (Int32)) (fun (v2 : Int32) => bd (FX8_skipUnlessFull a0 v2) (fun (_ : Unit) => bd (FX8_newName a0) (fun x4 => bd (FX5_expectWord (rf a0 0) ((some (1 : Fin 23)))) (fun (_ : Unit) => bd (FX5_expectNumber (rf a0 0) (1 : Int32) (9 : Int32)) (fun x6 => bd (FX5_expectSign (rf a0 0) (59 : Int32)) (fun (_ : Unit) => bd (gI (rf a0 0) 6) (fun x8 => bd (if x8 = 0 then bd (FX7_addLine (rf a0 1) x4 x6) (fun (_ : Unit) => pu ()) else pu () : PP (Unit)) (fun (v10 : Unit) => pu ())))))))))
set_option maxHeartbeats 4000000 in
set_option maxRecDepth 100000 in
theorem SX8_readLine {l : Launch} {K : KK} {n : Nat} {hn : 270 ≤ n} (a0 : Nat) (h0 : ob a0 8) : CT l K n 9 mX8_readLine [.ref (K.2.1 + a0)] enU (FX8_readLine a0) := by
  refine CT.of2 (lv2 := [(0, .ref (K.2.1 + a0))]) (by decide) rfl hn (Nat.le_of_ble_eq_true rfl) rfl (rp_id ?_)
  unfold FX8_readLine
  refine rp_aload_n 0 dX8_readLine_0 rfl ?_
  refine rp_aload_n 0 dX8_readLine_1 rfl ?_
  refine rp_getR fi_X8_12 h0 rfl dX8_readLine_2 ?_
  refine rp_getI fi_X8_97 (tX8_1 h0) rfl dX8_readLine_5 (fun x1 => ?_)
  refine rp_iconst (5 : Int32) dX8_readLine_8 (by decide) ?_
  refine rp_as ?_
  refine rp_join 17 (fun (v2 : Int32) => [(0, .ref (K.2.1 + a0))]) (fun v2 => [.int v2, .ref (K.2.1 + a0)]) (fun v2 => ?_) (fun hJ17 => ?_)
  · refine rp_callVv [.int v2] (SX8_skipUnlessFull (hn := hn) a0 v2 h0) cvX8_skipUnlessFull (mw (i := 584) (by decide +kernel)) (by omega) h0 (by decide) rfl rfl rfl (Nat.le_of_ble_eq_true rfl) dX8_readLine_17 (fun x3 => ?_)
    refine rp_aload_n 0 dX8_readLine_20 rfl ?_
    refine rp_callVl [] (SX8_newName (hn := hn) a0 h0) cvX8_newName (mw (i := 593) (by decide +kernel)) (by omega) h0 (by decide) rfl rfl rfl (Nat.le_of_ble_eq_true rfl) dX8_readLine_21 (fun x4 => ?_)
    refine rp_lstore_n [(1, .long x4), (0, .ref (K.2.1 + a0))] dX8_readLine_24 (by decide) rfl ?_
    refine rp_aload_n 1 dX8_readLine_25 rfl ?_
    refine rp_getR fi_X8_18 h0 rfl dX8_readLine_26 ?_
    refine rp_getWord (1 : Fin 23) (mw (i := 608) (by decide +kernel)) dX8_readLine_29 ?_
    refine rp_callVv [wr K ((some (1 : Fin 23)))] (SX5_expectWord (hn := hn) (rf a0 0) ((some (1 : Fin 23))) (tX8_0 h0)) cvX5_expectWord (mw (i := 610) (by decide +kernel)) (by omega) (tX8_0 h0) (by decide) rfl rfl rfl (Nat.le_of_ble_eq_true rfl) dX8_readLine_32 (fun x5 => ?_)
    refine rp_aload_n 1 dX8_readLine_35 rfl ?_
    refine rp_getR fi_X8_18 h0 rfl dX8_readLine_36 ?_
    refine rp_iconst (1 : Int32) dX8_readLine_39 (by decide) ?_
    refine rp_bipush (9 : Int32) dX8_readLine_40 (by decide) ?_
    refine rp_callVi [.int (1 : Int32), .int (9 : Int32)] (SX5_expectNumber (hn := hn) (rf a0 0) (1 : Int32) (9 : Int32) (tX8_0 h0)) cvX5_expectNumber (mw (i := 615) (by decide +kernel)) (by omega) (tX8_0 h0) (by decide) rfl rfl rfl (Nat.le_of_ble_eq_true rfl) dX8_readLine_42 (fun x6 => ?_)
    refine rp_istore_n [(3, .int x6), (1, .long x4), (0, .ref (K.2.1 + a0))] dX8_readLine_45 (by decide) rfl ?_
    refine rp_aload_n 2 dX8_readLine_46 rfl ?_
    refine rp_getR fi_X8_18 h0 rfl dX8_readLine_47 ?_
    refine rp_bipush (59 : Int32) dX8_readLine_50 (by decide) ?_
    refine rp_callVv [.int (59 : Int32)] (SX5_expectSign (hn := hn) (rf a0 0) (59 : Int32) (tX8_0 h0)) cvX5_expectSign (mw (i := 619) (by decide +kernel)) (by omega) (tX8_0 h0) (by decide) rfl rfl rfl (Nat.le_of_ble_eq_true rfl) dX8_readLine_52 (fun x7 => ?_)
    refine rp_aload_n 2 dX8_readLine_55 rfl ?_
    refine rp_getR fi_X8_18 h0 rfl dX8_readLine_56 ?_
    refine rp_getI fi_X8_123 (tX8_0 h0) rfl dX8_readLine_59 (fun x8 => ?_)
    refine rp_as ?_
    refine rp_join 74 (fun (v10 : Unit) => []) (fun v10 => []) (fun v10 => ?_) (fun hJ74 => ?_)
    · exact rp_pu (rp_vret rfl dX8_readLine_74)
    refine rp_if_ne 74 dX8_readLine_62 (by decide) ?_ ?_
    · exact rp_sub [] rfl (rp_pu (hJ74 ()))
    · refine rp_aload_n 2 dX8_readLine_65 rfl ?_
      refine rp_getR fi_X8_12 h0 rfl dX8_readLine_66 ?_
      refine rp_lload_n 1 dX8_readLine_69 rfl ?_
      refine rp_iload_n 0 dX8_readLine_70 rfl ?_
      refine rp_callVv [.long x4, .int x6] (SX7_addLine (hn := hn) (rf a0 1) x4 x6 (tX8_1 h0)) cvX7_addLine (mw (i := 623) (by decide +kernel)) (by omega) (tX8_1 h0) (by decide) rfl rfl rfl (Nat.le_of_ble_eq_true rfl) dX8_readLine_71 (fun x9 => ?_)
      exact rp_sub [] rfl (rp_pu (hJ74 ()))
  refine rp_icmp_lt 16 dX8_readLine_9 (by decide) ?_ ?_
  · refine rp_iconst (0 : Int32) dX8_readLine_16 (by decide) ?_
    exact rp_sub [0] rfl (rp_pu (hJ17 (0 : Int32)))
  · refine rp_iconst (1 : Int32) dX8_readLine_12 (by decide) ?_
    refine rp_goto 17 dX8_readLine_13 (by decide) ?_
    exact rp_sub [0] rfl (rp_pu (hJ17 (1 : Int32)))

theorem dX8_lineOutside_0 : decode cX8_lineOutside 0 = .ok (.aload_n 0, 1) := by decide +kernel
theorem dX8_lineOutside_1 : decode cX8_lineOutside 1 = .ok (.getfield 18, 3) := by decide +kernel
theorem dX8_lineOutside_4 : decode cX8_lineOutside 4 = .ok (.aload_n 0, 1) := by decide +kernel
theorem dX8_lineOutside_5 : decode cX8_lineOutside 5 = .ok (.getfield 12, 3) := by decide +kernel
theorem dX8_lineOutside_8 : decode cX8_lineOutside 8 = .ok (.getfield 143, 3) := by decide +kernel
theorem dX8_lineOutside_11 : decode cX8_lineOutside 11 = .ok (.aload_n 0, 1) := by decide +kernel
theorem dX8_lineOutside_12 : decode cX8_lineOutside 12 = .ok (.getfield 12, 3) := by decide +kernel
theorem dX8_lineOutside_15 : decode cX8_lineOutside 15 = .ok (.getfield 97, 3) := by decide +kernel
theorem dX8_lineOutside_18 : decode cX8_lineOutside 18 = .ok (.invokevirtual 147, 3) := by decide +kernel
theorem dX8_lineOutside_21 : decode cX8_lineOutside 21 = .ok (.istore_n 2, 1) := by decide +kernel
theorem dX8_lineOutside_22 : decode cX8_lineOutside 22 = .ok (.iload_n 2, 1) := by decide +kernel
theorem dX8_lineOutside_23 : decode cX8_lineOutside 23 = .ok (.iconst (-1), 1) := by decide +kernel
theorem dX8_lineOutside_24 : decode cX8_lineOutside 24 = .ok (.if_icmp .ne 5, 3) := by decide +kernel
theorem dX8_lineOutside_27 : decode cX8_lineOutside 27 = .ok (.iconst 0, 1) := by decide +kernel
theorem dX8_lineOutside_28 : decode cX8_lineOutside 28 = .ok (.ireturn, 1) := by decide +kernel
theorem dX8_lineOutside_29 : decode cX8_lineOutside 29 = .ok (.iload_n 1, 1) := by decide +kernel
theorem dX8_lineOutside_30 : decode cX8_lineOutside 30 = .ok (.iload_n 2, 1) := by decide +kernel
theorem dX8_lineOutside_31 : decode cX8_lineOutside 31 = .ok (.ishr, 1) := by decide +kernel
theorem dX8_lineOutside_32 : decode cX8_lineOutside 32 = .ok (.iconst 1, 1) := by decide +kernel
theorem dX8_lineOutside_33 : decode cX8_lineOutside 33 = .ok (.iand, 1) := by decide +kernel
theorem dX8_lineOutside_34 : decode cX8_lineOutside 34 = .ok (.iconst 1, 1) := by decide +kernel
theorem dX8_lineOutside_35 : decode cX8_lineOutside 35 = .ok (.if_icmp .ne 13, 3) := by decide +kernel
theorem dX8_lineOutside_38 : decode cX8_lineOutside 38 = .ok (.aload_n 0, 1) := by decide +kernel
theorem dX8_lineOutside_39 : decode cX8_lineOutside 39 = .ok (.getfield 18, 3) := by decide +kernel
theorem dX8_lineOutside_42 : decode cX8_lineOutside 42 = .ok (.iconst 3, 1) := by decide +kernel
theorem dX8_lineOutside_43 : decode cX8_lineOutside 43 = .ok (.invokevirtual 74, 3) := by decide +kernel
theorem dX8_lineOutside_46 : decode cX8_lineOutside 46 = .ok (.iconst 0, 1) := by decide +kernel
theorem dX8_lineOutside_47 : decode cX8_lineOutside 47 = .ok (.ireturn, 1) := by decide +kernel
theorem dX8_lineOutside_48 : decode cX8_lineOutside 48 = .ok (.aload_n 0, 1) := by decide +kernel
theorem dX8_lineOutside_49 : decode cX8_lineOutside 49 = .ok (.getfield 18, 3) := by decide +kernel
theorem dX8_lineOutside_52 : decode cX8_lineOutside 52 = .ok (.invokevirtual 82, 3) := by decide +kernel
theorem dX8_lineOutside_55 : decode cX8_lineOutside 55 = .ok (.iconst 1, 1) := by decide +kernel
theorem dX8_lineOutside_56 : decode cX8_lineOutside 56 = .ok (.iload_n 2, 1) := by decide +kernel
theorem dX8_lineOutside_57 : decode cX8_lineOutside 57 = .ok (.ishl, 1) := by decide +kernel
theorem dX8_lineOutside_58 : decode cX8_lineOutside 58 = .ok (.ireturn, 1) := by decide +kernel
noncomputable def FX8_lineOutside (a0 : Nat) (p1 : Int32) : PP Int32 := bd (gI (rf a0 1) 9) (fun x1 => bd (FX5_findName (rf a0 0) (rf (rf a0 1) 0) x1 5) (fun x2 => if x2 = (-1 : Int32) then pu (0 : Int32) else if ((p1 >>> (x2 &&& 31)) &&& (1 : Int32)) = (1 : Int32) then bd (FX5_fail (rf a0 0) (3 : Int32)) (fun (_ : Unit) => pu (0 : Int32)) else bd (FX5_advance (rf a0 0)) (fun (_ : Unit) => pu ((1 : Int32) <<< (x2 &&& 31)))))
set_option maxHeartbeats 4000000 in
set_option maxRecDepth 100000 in
theorem SX8_lineOutside {l : Launch} {K : KK} {n : Nat} {hn : 270 ≤ n} (a0 : Nat) (p1 : Int32) (h0 : ob a0 8) : CT l K n 8 mX8_lineOutside [.ref (K.2.1 + a0), .int p1] enI (FX8_lineOutside a0 p1) := by
  refine CT.of2 (lv2 := [(0, .ref (K.2.1 + a0)), (1, .int p1)]) (by decide) rfl hn (Nat.le_of_ble_eq_true rfl) rfl (rp_id ?_)
  unfold FX8_lineOutside
  refine rp_aload_n 0 dX8_lineOutside_0 rfl ?_
  refine rp_getR fi_X8_18 h0 rfl dX8_lineOutside_1 ?_
  refine rp_aload_n 0 dX8_lineOutside_4 rfl ?_
  refine rp_getR fi_X8_12 h0 rfl dX8_lineOutside_5 ?_
  refine rp_getR fi_X8_143 (tX8_1 h0) rfl dX8_lineOutside_8 ?_
  refine rp_aload_n 0 dX8_lineOutside_11 rfl ?_
  refine rp_getR fi_X8_12 h0 rfl dX8_lineOutside_12 ?_
  refine rp_getI fi_X8_97 (tX8_1 h0) rfl dX8_lineOutside_15 (fun x1 => ?_)
  refine rp_callVi [.ref (K.2.1 + (rf (rf a0 1) 0)), .int x1] (SX5_findName (hn := hn) (rf a0 0) (rf (rf a0 1) 0) x1 5 (tX8_0 h0) (tX7_0 (tX8_1 h0))) cvX5_findName (mw (i := 639) (by decide +kernel)) (by omega) (tX8_0 h0) (by decide) rfl rfl rfl (Nat.le_of_ble_eq_true rfl) dX8_lineOutside_18 (fun x2 => ?_)
  refine rp_istore_n [(2, .int x2), (0, .ref (K.2.1 + a0)), (1, .int p1)] dX8_lineOutside_21 (by decide) rfl ?_
  refine rp_iload_n 0 dX8_lineOutside_22 rfl ?_
  refine rp_iconst (-1 : Int32) dX8_lineOutside_23 (by decide) ?_
  refine rp_icmp_ne 29 dX8_lineOutside_24 (by decide) ?_ ?_
  · refine rp_iload_n 2 dX8_lineOutside_29 rfl ?_
    refine rp_iload_n 0 dX8_lineOutside_30 rfl ?_
    refine rp_ishr dX8_lineOutside_31 ?_
    refine rp_iconst (1 : Int32) dX8_lineOutside_32 (by decide) ?_
    refine rp_iand dX8_lineOutside_33 ?_
    refine rp_iconst (1 : Int32) dX8_lineOutside_34 (by decide) ?_
    refine rp_icmp_ne 48 dX8_lineOutside_35 (by decide) ?_ ?_
    · refine rp_aload_n 1 dX8_lineOutside_48 rfl ?_
      refine rp_getR fi_X8_18 h0 rfl dX8_lineOutside_49 ?_
      refine rp_callVv [] (SX5_advance (hn := hn) (rf a0 0) (tX8_0 h0)) cvX5_advance (mw (i := 592) (by decide +kernel)) (by omega) (tX8_0 h0) (by decide) rfl rfl rfl (Nat.le_of_ble_eq_true rfl) dX8_lineOutside_52 (fun x3 => ?_)
      refine rp_iconst (1 : Int32) dX8_lineOutside_55 (by decide) ?_
      refine rp_iload_n 0 dX8_lineOutside_56 rfl ?_
      refine rp_ishl dX8_lineOutside_57 ?_
      exact rp_pu (rp_iret rfl dX8_lineOutside_58)
    · refine rp_aload_n 1 dX8_lineOutside_38 rfl ?_
      refine rp_getR fi_X8_18 h0 rfl dX8_lineOutside_39 ?_
      refine rp_iconst (3 : Int32) dX8_lineOutside_42 (by decide) ?_
      refine rp_callVv [.int (3 : Int32)] (SX5_fail (hn := hn) (rf a0 0) (3 : Int32) (tX8_0 h0)) cvX5_fail (mw (i := 588) (by decide +kernel)) (by omega) (tX8_0 h0) (by decide) rfl rfl rfl (Nat.le_of_ble_eq_true rfl) dX8_lineOutside_43 (fun x4 => ?_)
      refine rp_iconst (0 : Int32) dX8_lineOutside_46 (by decide) ?_
      exact rp_pu (rp_iret rfl dX8_lineOutside_47)
  · refine rp_iconst (0 : Int32) dX8_lineOutside_27 (by decide) ?_
    exact rp_pu (rp_iret rfl dX8_lineOutside_28)
