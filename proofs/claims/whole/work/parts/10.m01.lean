theorem dX0_copyFrom_0 : decode cX0_copyFrom 0 = .ok (.aload_n 1, 1) := by decide +kernel
theorem dX0_copyFrom_1 : decode cX0_copyFrom 1 = .ok (.getfield 9, 3) := by decide +kernel
theorem dX0_copyFrom_4 : decode cX0_copyFrom 4 = .ok (.iconst 0, 1) := by decide +kernel
theorem dX0_copyFrom_5 : decode cX0_copyFrom 5 = .ok (.aload_n 0, 1) := by decide +kernel
theorem dX0_copyFrom_6 : decode cX0_copyFrom 6 = .ok (.getfield 9, 3) := by decide +kernel
theorem dX0_copyFrom_9 : decode cX0_copyFrom 9 = .ok (.iconst 0, 1) := by decide +kernel
theorem dX0_copyFrom_10 : decode cX0_copyFrom 10 = .ok (.aload_n 0, 1) := by decide +kernel
theorem dX0_copyFrom_11 : decode cX0_copyFrom 11 = .ok (.getfield 9, 3) := by decide +kernel
theorem dX0_copyFrom_14 : decode cX0_copyFrom 14 = .ok (.arraylength, 1) := by decide +kernel
theorem dX0_copyFrom_15 : decode cX0_copyFrom 15 = .ok (.invokestatic 18, 3) := by decide +kernel
theorem dX0_copyFrom_18 : decode cX0_copyFrom 18 = .ok (.aload_n 0, 1) := by decide +kernel
theorem dX0_copyFrom_19 : decode cX0_copyFrom 19 = .ok (.aload_n 1, 1) := by decide +kernel
theorem dX0_copyFrom_20 : decode cX0_copyFrom 20 = .ok (.getfield 24, 3) := by decide +kernel
theorem dX0_copyFrom_23 : decode cX0_copyFrom 23 = .ok (.putfield 24, 3) := by decide +kernel
theorem dX0_copyFrom_26 : decode cX0_copyFrom 26 = .ok (.return_, 1) := by decide +kernel
noncomputable def FX0_copyFrom (a0 : Nat) (p1 : Nat) : PP Unit := bd (cpI (rf p1 0) (rf a0 0) 1000) (fun (_ : Unit) => bd (gI p1 2) (fun x1 => bd (sI a0 2 x1) (fun (_ : Unit) => pu ())))
set_option maxHeartbeats 4000000 in
set_option maxRecDepth 100000 in
theorem SX0_copyFrom {l : Launch} {K : KK} {n : Nat} {hn : 270 ≤ n} (a0 : Nat) (p1 : Nat) (h0 : ob a0 0) (h_p1 : ob p1 0) : CT l K n 1 mX0_copyFrom [.ref (K.2.1 + a0), .ref (K.2.1 + p1)] enU (FX0_copyFrom a0 p1) := by
  refine CT.of2 (lv2 := [(0, .ref (K.2.1 + a0)), (1, .ref (K.2.1 + p1))]) (by decide) rfl hn (Nat.le_of_ble_eq_true rfl) rfl (rp_id ?_)
  unfold FX0_copyFrom
  refine rp_aload_n 1 dX0_copyFrom_0 rfl ?_
  refine rp_getR fi_X0_9 h_p1 rfl dX0_copyFrom_1 ?_
  refine rp_iconst (0 : Int32) dX0_copyFrom_4 (by decide) ?_
  refine rp_aload_n 0 dX0_copyFrom_5 rfl ?_
  refine rp_getR fi_X0_9 h0 rfl dX0_copyFrom_6 ?_
  refine rp_iconst (0 : Int32) dX0_copyFrom_9 (by decide) ?_
  refine rp_aload_n 0 dX0_copyFrom_10 rfl ?_
  refine rp_getR fi_X0_9 h0 rfl dX0_copyFrom_11 ?_
  refine rp_alen (v := (1000 : Int32)) (tX0_0 h0) rfl rfl dX0_copyFrom_14 ?_
  refine rp_cpI (n0 := 1000) (n1 := 1000) 1000 (tX0_0 h_p1) (tX0_0 h0) (by decide) (by decide) (by decide) (mw (i := 730) (by decide +kernel)) (by omega) (Nat.le_of_ble_eq_true rfl) dX0_copyFrom_15 ?_
  refine rp_aload_n 0 dX0_copyFrom_18 rfl ?_
  refine rp_aload_n 1 dX0_copyFrom_19 rfl ?_
  refine rp_getI fi_X0_24 h_p1 rfl dX0_copyFrom_20 (fun x1 => ?_)
  refine rp_putI fi_X0_24 fp_X0_2 h0 rfl dX0_copyFrom_23 ?_
  exact rp_pu (rp_vret rfl dX0_copyFrom_26)

theorem dX0_addStep_0 : decode cX0_addStep 0 = .ok (.aload_n 0, 1) := by decide +kernel
theorem dX0_addStep_1 : decode cX0_addStep 1 = .ok (.getfield 24, 3) := by decide +kernel
theorem dX0_addStep_4 : decode cX0_addStep 4 = .ok (.aload_n 0, 1) := by decide +kernel
theorem dX0_addStep_5 : decode cX0_addStep 5 = .ok (.getfield 9, 3) := by decide +kernel
theorem dX0_addStep_8 : decode cX0_addStep 8 = .ok (.arraylength, 1) := by decide +kernel
theorem dX0_addStep_9 : decode cX0_addStep 9 = .ok (.if_icmp .ge 23, 3) := by decide +kernel
theorem dX0_addStep_12 : decode cX0_addStep 12 = .ok (.aload_n 0, 1) := by decide +kernel
theorem dX0_addStep_13 : decode cX0_addStep 13 = .ok (.getfield 9, 3) := by decide +kernel
theorem dX0_addStep_16 : decode cX0_addStep 16 = .ok (.aload_n 0, 1) := by decide +kernel
theorem dX0_addStep_17 : decode cX0_addStep 17 = .ok (.getfield 24, 3) := by decide +kernel
theorem dX0_addStep_20 : decode cX0_addStep 20 = .ok (.iload_n 1, 1) := by decide +kernel
theorem dX0_addStep_21 : decode cX0_addStep 21 = .ok (.iastore, 1) := by decide +kernel
theorem dX0_addStep_22 : decode cX0_addStep 22 = .ok (.aload_n 0, 1) := by decide +kernel
theorem dX0_addStep_23 : decode cX0_addStep 23 = .ok (.dup, 1) := by decide +kernel
theorem dX0_addStep_24 : decode cX0_addStep 24 = .ok (.getfield 24, 3) := by decide +kernel
theorem dX0_addStep_27 : decode cX0_addStep 27 = .ok (.iconst 1, 1) := by decide +kernel
theorem dX0_addStep_28 : decode cX0_addStep 28 = .ok (.iadd, 1) := by decide +kernel
theorem dX0_addStep_29 : decode cX0_addStep 29 = .ok (.putfield 24, 3) := by decide +kernel
theorem dX0_addStep_32 : decode cX0_addStep 32 = .ok (.return_, 1) := by decide +kernel
noncomputable def FX0_addStep (a0 : Nat) (p1 : Int32) : PP Unit := bd (gI a0 2) (fun x1 => bd (if (1000 : Int32) ≤ x1 then pu () else bd (gI a0 2) (fun x2 => bd (uI (rf a0 0) 1000 x2 p1) (fun (_ : Unit) => bd (gI a0 2) (fun x3 => bd (sI a0 2 (x3 + (1 : Int32))) (fun (_ : Unit) => pu ())))) : PP (Unit)) (fun (v4 : Unit) => pu ()))
set_option maxHeartbeats 4000000 in
set_option maxRecDepth 100000 in
theorem SX0_addStep {l : Launch} {K : KK} {n : Nat} {hn : 270 ≤ n} (a0 : Nat) (p1 : Int32) (h0 : ob a0 0) : CT l K n 0 mX0_addStep [.ref (K.2.1 + a0), .int p1] enU (FX0_addStep a0 p1) := by
  refine CT.of2 (lv2 := [(0, .ref (K.2.1 + a0)), (1, .int p1)]) (by decide) rfl hn (Nat.le_of_ble_eq_true rfl) rfl (rp_id ?_)
  unfold FX0_addStep
  refine rp_aload_n 0 dX0_addStep_0 rfl ?_
  refine rp_getI fi_X0_24 h0 rfl dX0_addStep_1 (fun x1 => ?_)
  refine rp_aload_n 0 dX0_addStep_4 rfl ?_
  refine rp_getR fi_X0_9 h0 rfl dX0_addStep_5 ?_
  refine rp_alen (v := (1000 : Int32)) (tX0_0 h0) rfl rfl dX0_addStep_8 ?_
  refine rp_as ?_
  refine rp_join 32 (fun (v4 : Unit) => []) (fun v4 => []) (fun v4 => ?_) (fun hJ32 => ?_)
  · exact rp_pu (rp_vret rfl dX0_addStep_32)
  refine rp_icmp_ge 32 dX0_addStep_9 (by decide) ?_ ?_
  · exact rp_sub [] rfl (rp_pu (hJ32 ()))
  · refine rp_aload_n 0 dX0_addStep_12 rfl ?_
    refine rp_getR fi_X0_9 h0 rfl dX0_addStep_13 ?_
    refine rp_aload_n 0 dX0_addStep_16 rfl ?_
    refine rp_getI fi_X0_24 h0 rfl dX0_addStep_17 (fun x2 => ?_)
    refine rp_iload_n 1 dX0_addStep_20 rfl ?_
    refine rp_iast (tX0_0 h0) dX0_addStep_21 ?_
    refine rp_aload_n 0 dX0_addStep_22 rfl ?_
    refine rp_dup dX0_addStep_23 rfl ?_
    refine rp_getI fi_X0_24 h0 rfl dX0_addStep_24 (fun x3 => ?_)
    refine rp_iconst (1 : Int32) dX0_addStep_27 (by decide) ?_
    refine rp_iadd dX0_addStep_28 ?_
    refine rp_putI fi_X0_24 fp_X0_2 h0 rfl dX0_addStep_29 ?_
    exact rp_sub [] rfl (rp_pu (hJ32 ()))

theorem dX0_setPlain_0 : decode cX0_setPlain 0 = .ok (.aload_n 0, 1) := by decide +kernel
theorem dX0_setPlain_1 : decode cX0_setPlain 1 = .ok (.iconst 0, 1) := by decide +kernel
theorem dX0_setPlain_2 : decode cX0_setPlain 2 = .ok (.putfield 24, 3) := by decide +kernel
theorem dX0_setPlain_5 : decode cX0_setPlain 5 = .ok (.aload_n 0, 1) := by decide +kernel
theorem dX0_setPlain_6 : decode cX0_setPlain 6 = .ok (.iconst 1, 1) := by decide +kernel
theorem dX0_setPlain_7 : decode cX0_setPlain 7 = .ok (.invokevirtual 28, 3) := by decide +kernel
theorem dX0_setPlain_10 : decode cX0_setPlain 10 = .ok (.aload_n 0, 1) := by decide +kernel
theorem dX0_setPlain_11 : decode cX0_setPlain 11 = .ok (.bipush (-2), 2) := by decide +kernel
theorem dX0_setPlain_13 : decode cX0_setPlain 13 = .ok (.invokevirtual 28, 3) := by decide +kernel
theorem dX0_setPlain_16 : decode cX0_setPlain 16 = .ok (.aload_n 0, 1) := by decide +kernel
theorem dX0_setPlain_17 : decode cX0_setPlain 17 = .ok (.bipush (-10), 2) := by decide +kernel
theorem dX0_setPlain_19 : decode cX0_setPlain 19 = .ok (.invokevirtual 28, 3) := by decide +kernel
theorem dX0_setPlain_22 : decode cX0_setPlain 22 = .ok (.return_, 1) := by decide +kernel
noncomputable def FX0_setPlain (a0 : Nat) : PP Unit := bd (sI a0 2 (0 : Int32)) (fun (_ : Unit) => bd (FX0_addStep a0 (1 : Int32)) (fun (_ : Unit) => bd (FX0_addStep a0 (-2 : Int32)) (fun (_ : Unit) => bd (FX0_addStep a0 (-10 : Int32)) (fun (_ : Unit) => pu ()))))
set_option maxHeartbeats 4000000 in
set_option maxRecDepth 100000 in
theorem SX0_setPlain {l : Launch} {K : KK} {n : Nat} {hn : 270 ≤ n} (a0 : Nat) (h0 : ob a0 0) : CT l K n 1 mX0_setPlain [.ref (K.2.1 + a0)] enU (FX0_setPlain a0) := by
  refine CT.of2 (lv2 := [(0, .ref (K.2.1 + a0))]) (by decide) rfl hn (Nat.le_of_ble_eq_true rfl) rfl (rp_id ?_)
  unfold FX0_setPlain
  refine rp_aload_n 0 dX0_setPlain_0 rfl ?_
  refine rp_iconst (0 : Int32) dX0_setPlain_1 (by decide) ?_
  refine rp_putI fi_X0_24 fp_X0_2 h0 rfl dX0_setPlain_2 ?_
  refine rp_aload_n 0 dX0_setPlain_5 rfl ?_
  refine rp_iconst (1 : Int32) dX0_setPlain_6 (by decide) ?_
  refine rp_callVv [.int (1 : Int32)] (SX0_addStep (hn := hn) a0 (1 : Int32) h0) cvX0_addStep (mw (i := 434) (by decide +kernel)) (by omega) h0 (by decide) rfl rfl rfl (Nat.le_of_ble_eq_true rfl) dX0_setPlain_7 (fun x1 => ?_)
  refine rp_aload_n 0 dX0_setPlain_10 rfl ?_
  refine rp_bipush (-2 : Int32) dX0_setPlain_11 (by decide) ?_
  refine rp_callVv [.int (-2 : Int32)] (SX0_addStep (hn := hn) a0 (-2 : Int32) h0) cvX0_addStep (mw (i := 434) (by decide +kernel)) (by omega) h0 (by decide) rfl rfl rfl (Nat.le_of_ble_eq_true rfl) dX0_setPlain_13 (fun x2 => ?_)
  refine rp_aload_n 0 dX0_setPlain_16 rfl ?_
  refine rp_bipush (-10 : Int32) dX0_setPlain_17 (by decide) ?_
  refine rp_callVv [.int (-10 : Int32)] (SX0_addStep (hn := hn) a0 (-10 : Int32) h0) cvX0_addStep (mw (i := 434) (by decide +kernel)) (by omega) h0 (by decide) rfl rfl rfl (Nat.le_of_ble_eq_true rfl) dX0_setPlain_19 (fun x3 => ?_)
  exact rp_pu (rp_vret rfl dX0_setPlain_22)

theorem dX0_operand_0 : decode cX0_operand 0 = .ok (.iload_n 0, 1) := by decide +kernel
theorem dX0_operand_1 : decode cX0_operand 1 = .ok (.tableswitch 40 (-4) (-1) #[37, 35, 33, 31], 31) := by decide +kernel
theorem dX0_operand_32 : decode cX0_operand 32 = .ok (.iload_n 1, 1) := by decide +kernel
theorem dX0_operand_33 : decode cX0_operand 33 = .ok (.ireturn, 1) := by decide +kernel
theorem dX0_operand_34 : decode cX0_operand 34 = .ok (.iload_n 2, 1) := by decide +kernel
theorem dX0_operand_35 : decode cX0_operand 35 = .ok (.ireturn, 1) := by decide +kernel
theorem dX0_operand_36 : decode cX0_operand 36 = .ok (.iload_n 3, 1) := by decide +kernel
theorem dX0_operand_37 : decode cX0_operand 37 = .ok (.ireturn, 1) := by decide +kernel
theorem dX0_operand_38 : decode cX0_operand 38 = .ok (.iload 4, 2) := by decide +kernel
theorem dX0_operand_40 : decode cX0_operand 40 = .ok (.ireturn, 1) := by decide +kernel
theorem dX0_operand_41 : decode cX0_operand 41 = .ok (.iload_n 0, 1) := by decide +kernel
theorem dX0_operand_42 : decode cX0_operand 42 = .ok (.ireturn, 1) := by decide +kernel
noncomputable def FX0_operand (p1 : Int32) (p2 : Int32) (p3 : Int32) (p4 : Int32) (p5 : Int32) : PP Int32 := tsw p1 [(-4 : Int32), (-3 : Int32), (-2 : Int32), (-1 : Int32)] [pu p5, pu p4, pu p3, pu p2] (pu p1)
set_option maxHeartbeats 4000000 in
set_option maxRecDepth 100000 in
theorem SX0_operand {l : Launch} {K : KK} {n : Nat} {hn : 270 ≤ n} (p1 : Int32) (p2 : Int32) (p3 : Int32) (p4 : Int32) (p5 : Int32) : CT l K n 0 mX0_operand [.int p1, .int p2, .int p3, .int p4, .int p5] enI (FX0_operand p1 p2 p3 p4 p5) := by
  refine CT.of2 (lv2 := [(0, .int p1), (1, .int p2), (2, .int p3), (3, .int p4), (4, .int p5)]) (by decide) rfl hn (Nat.le_of_ble_eq_true rfl) rfl (rp_id ?_)
  unfold FX0_operand
  refine rp_iload_n 0 dX0_operand_0 rfl ?_
  refine rp_tsw [38, 36, 34, 32] 41 dX0_operand_1 rfl (by decide +kernel) ?_ ?_
  · refine ⟨?_, ?_, ?_, ?_, trivial⟩
    · refine rp_iload 4 dX0_operand_38 rfl ?_
      exact rp_pu (rp_iret rfl dX0_operand_40)
    · refine rp_iload_n 3 dX0_operand_36 rfl ?_
      exact rp_pu (rp_iret rfl dX0_operand_37)
    · refine rp_iload_n 2 dX0_operand_34 rfl ?_
      exact rp_pu (rp_iret rfl dX0_operand_35)
    · refine rp_iload_n 1 dX0_operand_32 rfl ?_
      exact rp_pu (rp_iret rfl dX0_operand_33)
  · refine rp_iload_n 0 dX0_operand_41 rfl ?_
    exact rp_pu (rp_iret rfl dX0_operand_42)

theorem dX0_join_0 : decode cX0_join 0 = .ok (.iload_n 0, 1) := by decide +kernel
theorem dX0_join_1 : decode cX0_join 1 = .ok (.tableswitch 97 (-11) (-6) #[93, 89, 78, 67, 53, 39], 39) := by decide +kernel
theorem dX0_join_40 : decode cX0_join 40 = .ok (.iload_n 1, 1) := by decide +kernel
theorem dX0_join_41 : decode cX0_join 41 = .ok (.ifCond .eq 11, 3) := by decide +kernel
theorem dX0_join_44 : decode cX0_join 44 = .ok (.iload_n 2, 1) := by decide +kernel
theorem dX0_join_45 : decode cX0_join 45 = .ok (.ifCond .eq 7, 3) := by decide +kernel
theorem dX0_join_48 : decode cX0_join 48 = .ok (.iconst 1, 1) := by decide +kernel
theorem dX0_join_49 : decode cX0_join 49 = .ok (.goto 4, 3) := by decide +kernel
theorem dX0_join_52 : decode cX0_join 52 = .ok (.iconst 0, 1) := by decide +kernel
theorem dX0_join_53 : decode cX0_join 53 = .ok (.ireturn, 1) := by decide +kernel
theorem dX0_join_54 : decode cX0_join 54 = .ok (.iload_n 1, 1) := by decide +kernel
theorem dX0_join_55 : decode cX0_join 55 = .ok (.ifCond .ne 7, 3) := by decide +kernel
theorem dX0_join_58 : decode cX0_join 58 = .ok (.iload_n 2, 1) := by decide +kernel
theorem dX0_join_59 : decode cX0_join 59 = .ok (.ifCond .eq 7, 3) := by decide +kernel
theorem dX0_join_62 : decode cX0_join 62 = .ok (.iconst 1, 1) := by decide +kernel
theorem dX0_join_63 : decode cX0_join 63 = .ok (.goto 4, 3) := by decide +kernel
theorem dX0_join_66 : decode cX0_join 66 = .ok (.iconst 0, 1) := by decide +kernel
theorem dX0_join_67 : decode cX0_join 67 = .ok (.ireturn, 1) := by decide +kernel
theorem dX0_join_68 : decode cX0_join 68 = .ok (.iload_n 1, 1) := by decide +kernel
theorem dX0_join_69 : decode cX0_join 69 = .ok (.iload_n 2, 1) := by decide +kernel
theorem dX0_join_70 : decode cX0_join 70 = .ok (.if_icmp .ge 7, 3) := by decide +kernel
theorem dX0_join_73 : decode cX0_join 73 = .ok (.iconst 1, 1) := by decide +kernel
theorem dX0_join_74 : decode cX0_join 74 = .ok (.goto 4, 3) := by decide +kernel
theorem dX0_join_77 : decode cX0_join 77 = .ok (.iconst 0, 1) := by decide +kernel
theorem dX0_join_78 : decode cX0_join 78 = .ok (.ireturn, 1) := by decide +kernel
theorem dX0_join_79 : decode cX0_join 79 = .ok (.iload_n 1, 1) := by decide +kernel
theorem dX0_join_80 : decode cX0_join 80 = .ok (.iload_n 2, 1) := by decide +kernel
theorem dX0_join_81 : decode cX0_join 81 = .ok (.if_icmp .ne 7, 3) := by decide +kernel
theorem dX0_join_84 : decode cX0_join 84 = .ok (.iconst 1, 1) := by decide +kernel
theorem dX0_join_85 : decode cX0_join 85 = .ok (.goto 4, 3) := by decide +kernel
theorem dX0_join_88 : decode cX0_join 88 = .ok (.iconst 0, 1) := by decide +kernel
theorem dX0_join_89 : decode cX0_join 89 = .ok (.ireturn, 1) := by decide +kernel
theorem dX0_join_90 : decode cX0_join 90 = .ok (.iload_n 1, 1) := by decide +kernel
theorem dX0_join_91 : decode cX0_join 91 = .ok (.iload_n 2, 1) := by decide +kernel
theorem dX0_join_92 : decode cX0_join 92 = .ok (.iadd, 1) := by decide +kernel
theorem dX0_join_93 : decode cX0_join 93 = .ok (.ireturn, 1) := by decide +kernel
theorem dX0_join_94 : decode cX0_join 94 = .ok (.iload_n 1, 1) := by decide +kernel
theorem dX0_join_95 : decode cX0_join 95 = .ok (.iload_n 2, 1) := by decide +kernel
theorem dX0_join_96 : decode cX0_join 96 = .ok (.isub, 1) := by decide +kernel
theorem dX0_join_97 : decode cX0_join 97 = .ok (.ireturn, 1) := by decide +kernel
theorem dX0_join_98 : decode cX0_join 98 = .ok (.iload_n 1, 1) := by decide +kernel
theorem dX0_join_99 : decode cX0_join 99 = .ok (.iload_n 2, 1) := by decide +kernel
theorem dX0_join_100 : decode cX0_join 100 = .ok (.imul, 1) := by decide +kernel
theorem dX0_join_101 : decode cX0_join 101 = .ok (.ireturn, 1) := by decide +kernel
noncomputable def FX0_join (p1 : Int32) (p2 : Int32) (p3 : Int32) : PP Int32 := tsw p1 [(-11 : Int32), (-10 : Int32), (-9 : Int32), (-8 : Int32), (-7 : Int32), (-6 : Int32)] [pu (p2 - p3), pu (p2 + p3), bd (if p2 = p3 then pu (1 : Int32) else pu (0 : Int32) : PP (Int32)) (fun (v1 : Int32) => pu v1), bd (if p3 ≤ p2 then pu (0 : Int32) else pu (1 : Int32) : PP (Int32)) (fun (v2 : Int32) => pu v2), bd (if p2 = 0 then if p3 = 0 then pu (0 : Int32) else pu (1 : Int32) else pu (1 : Int32) : PP (Int32)) (fun (v3 : Int32) => pu v3), bd (if p2 = 0 then pu (0 : Int32) else if p3 = 0 then pu (0 : Int32) else pu (1 : Int32) : PP (Int32)) (fun (v4 : Int32) => pu v4)] (pu (p2 * p3))
set_option maxHeartbeats 4000000 in
set_option maxRecDepth 100000 in
theorem SX0_join {l : Launch} {K : KK} {n : Nat} {hn : 270 ≤ n} (p1 : Int32) (p2 : Int32) (p3 : Int32) : CT l K n 0 mX0_join [.int p1, .int p2, .int p3] enI (FX0_join p1 p2 p3) := by
  refine CT.of2 (lv2 := [(0, .int p1), (1, .int p2), (2, .int p3)]) (by decide) rfl hn (Nat.le_of_ble_eq_true rfl) rfl (rp_id ?_)
  unfold FX0_join
  refine rp_iload_n 0 dX0_join_0 rfl ?_
  refine rp_tsw [94, 90, 79, 68, 54, 40] 98 dX0_join_1 rfl (by decide +kernel) ?_ ?_
  · refine ⟨?_, ?_, ?_, ?_, ?_, ?_, trivial⟩
    · refine rp_iload_n 1 dX0_join_94 rfl ?_
      refine rp_iload_n 2 dX0_join_95 rfl ?_
      refine rp_isub dX0_join_96 ?_
      exact rp_pu (rp_iret rfl dX0_join_97)
    · refine rp_iload_n 1 dX0_join_90 rfl ?_
      refine rp_iload_n 2 dX0_join_91 rfl ?_
      refine rp_iadd dX0_join_92 ?_
      exact rp_pu (rp_iret rfl dX0_join_93)
    · refine rp_iload_n 1 dX0_join_79 rfl ?_
      refine rp_iload_n 2 dX0_join_80 rfl ?_
      refine rp_as ?_
      refine rp_join 89 (fun (v1 : Int32) => []) (fun v1 => [.int v1]) (fun v1 => ?_) (fun hJ89 => ?_)
      · exact rp_pu (rp_iret rfl dX0_join_89)
      refine rp_icmp_ne 88 dX0_join_81 (by decide) ?_ ?_
      · refine rp_iconst (0 : Int32) dX0_join_88 (by decide) ?_
        exact rp_sub [] rfl (rp_pu (hJ89 (0 : Int32)))
      · refine rp_iconst (1 : Int32) dX0_join_84 (by decide) ?_
        refine rp_goto 89 dX0_join_85 (by decide) ?_
        exact rp_sub [] rfl (rp_pu (hJ89 (1 : Int32)))
    · refine rp_iload_n 1 dX0_join_68 rfl ?_
      refine rp_iload_n 2 dX0_join_69 rfl ?_
      refine rp_as ?_
      refine rp_join 78 (fun (v2 : Int32) => []) (fun v2 => [.int v2]) (fun v2 => ?_) (fun hJ78 => ?_)
      · exact rp_pu (rp_iret rfl dX0_join_78)
      refine rp_icmp_ge 77 dX0_join_70 (by decide) ?_ ?_
      · refine rp_iconst (0 : Int32) dX0_join_77 (by decide) ?_
        exact rp_sub [] rfl (rp_pu (hJ78 (0 : Int32)))
      · refine rp_iconst (1 : Int32) dX0_join_73 (by decide) ?_
        refine rp_goto 78 dX0_join_74 (by decide) ?_
        exact rp_sub [] rfl (rp_pu (hJ78 (1 : Int32)))
    · refine rp_iload_n 1 dX0_join_54 rfl ?_
      refine rp_as ?_
      refine rp_join 67 (fun (v3 : Int32) => []) (fun v3 => [.int v3]) (fun v3 => ?_) (fun hJ67 => ?_)
      · exact rp_pu (rp_iret rfl dX0_join_67)
      refine rp_if_ne 62 dX0_join_55 (by decide) ?_ ?_
      · refine rp_iconst (1 : Int32) dX0_join_62 (by decide) ?_
        refine rp_goto 67 dX0_join_63 (by decide) ?_
        exact rp_sub [] rfl (rp_pu (hJ67 (1 : Int32)))
      · refine rp_iload_n 2 dX0_join_58 rfl ?_
        refine rp_if_eq 66 dX0_join_59 (by decide) ?_ ?_
        · refine rp_iconst (0 : Int32) dX0_join_66 (by decide) ?_
          exact rp_sub [] rfl (rp_pu (hJ67 (0 : Int32)))
        · refine rp_iconst (1 : Int32) dX0_join_62 (by decide) ?_
          refine rp_goto 67 dX0_join_63 (by decide) ?_
          exact rp_sub [] rfl (rp_pu (hJ67 (1 : Int32)))
    · refine rp_iload_n 1 dX0_join_40 rfl ?_
      refine rp_as ?_
      refine rp_join 53 (fun (v4 : Int32) => []) (fun v4 => [.int v4]) (fun v4 => ?_) (fun hJ53 => ?_)
      · exact rp_pu (rp_iret rfl dX0_join_53)
      refine rp_if_eq 52 dX0_join_41 (by decide) ?_ ?_
      · refine rp_iconst (0 : Int32) dX0_join_52 (by decide) ?_
        exact rp_sub [] rfl (rp_pu (hJ53 (0 : Int32)))
      · refine rp_iload_n 2 dX0_join_44 rfl ?_
        refine rp_if_eq 52 dX0_join_45 (by decide) ?_ ?_
        · refine rp_iconst (0 : Int32) dX0_join_52 (by decide) ?_
          exact rp_sub [] rfl (rp_pu (hJ53 (0 : Int32)))
        · refine rp_iconst (1 : Int32) dX0_join_48 (by decide) ?_
          refine rp_goto 53 dX0_join_49 (by decide) ?_
          exact rp_sub [] rfl (rp_pu (hJ53 (1 : Int32)))
  · refine rp_iload_n 1 dX0_join_98 rfl ?_
    refine rp_iload_n 2 dX0_join_99 rfl ?_
    refine rp_imul dX0_join_100 ?_
    exact rp_pu (rp_iret rfl dX0_join_101)

theorem dX0_drop_0 : decode cX0_drop 0 = .ok (.iconst 0, 1) := by decide +kernel
theorem dX0_drop_1 : decode cX0_drop 1 = .ok (.istore 5, 2) := by decide +kernel
theorem dX0_drop_3 : decode cX0_drop 3 = .ok (.iconst 0, 1) := by decide +kernel
theorem dX0_drop_4 : decode cX0_drop 4 = .ok (.istore 6, 2) := by decide +kernel
theorem dX0_drop_6 : decode cX0_drop 6 = .ok (.iload 6, 2) := by decide +kernel
theorem dX0_drop_8 : decode cX0_drop 8 = .ok (.aload_n 0, 1) := by decide +kernel
theorem dX0_drop_9 : decode cX0_drop 9 = .ok (.getfield 24, 3) := by decide +kernel
theorem dX0_drop_12 : decode cX0_drop 12 = .ok (.if_icmp .ge 138, 3) := by decide +kernel
theorem dX0_drop_15 : decode cX0_drop 15 = .ok (.aload_n 0, 1) := by decide +kernel
theorem dX0_drop_16 : decode cX0_drop 16 = .ok (.getfield 9, 3) := by decide +kernel
theorem dX0_drop_19 : decode cX0_drop 19 = .ok (.iload 6, 2) := by decide +kernel
theorem dX0_drop_21 : decode cX0_drop 21 = .ok (.iaload, 1) := by decide +kernel
theorem dX0_drop_22 : decode cX0_drop 22 = .ok (.istore 7, 2) := by decide +kernel
theorem dX0_drop_24 : decode cX0_drop 24 = .ok (.iload 7, 2) := by decide +kernel
theorem dX0_drop_26 : decode cX0_drop 26 = .ok (.bipush (-4), 2) := by decide +kernel
theorem dX0_drop_28 : decode cX0_drop 28 = .ok (.if_icmp .lt 36, 3) := by decide +kernel
theorem dX0_drop_31 : decode cX0_drop 31 = .ok (.iload 5, 2) := by decide +kernel
theorem dX0_drop_33 : decode cX0_drop 33 = .ok (.aload_n 0, 1) := by decide +kernel
theorem dX0_drop_34 : decode cX0_drop 34 = .ok (.getfield 15, 3) := by decide +kernel
theorem dX0_drop_37 : decode cX0_drop 37 = .ok (.arraylength, 1) := by decide +kernel
theorem dX0_drop_38 : decode cX0_drop 38 = .ok (.if_icmp .ge 106, 3) := by decide +kernel
theorem dX0_drop_41 : decode cX0_drop 41 = .ok (.aload_n 0, 1) := by decide +kernel
theorem dX0_drop_42 : decode cX0_drop 42 = .ok (.getfield 15, 3) := by decide +kernel
theorem dX0_drop_45 : decode cX0_drop 45 = .ok (.iload 5, 2) := by decide +kernel
theorem dX0_drop_47 : decode cX0_drop 47 = .ok (.iload 7, 2) := by decide +kernel
theorem dX0_drop_49 : decode cX0_drop 49 = .ok (.iload_n 1, 1) := by decide +kernel
theorem dX0_drop_50 : decode cX0_drop 50 = .ok (.iload_n 2, 1) := by decide +kernel
theorem dX0_drop_51 : decode cX0_drop 51 = .ok (.iload_n 3, 1) := by decide +kernel
theorem dX0_drop_52 : decode cX0_drop 52 = .ok (.iload 4, 2) := by decide +kernel
theorem dX0_drop_54 : decode cX0_drop 54 = .ok (.invokestatic 83, 3) := by decide +kernel
theorem dX0_drop_57 : decode cX0_drop 57 = .ok (.iastore, 1) := by decide +kernel
theorem dX0_drop_58 : decode cX0_drop 58 = .ok (.iinc 5 1, 3) := by decide +kernel
theorem dX0_drop_61 : decode cX0_drop 61 = .ok (.goto 83, 3) := by decide +kernel
theorem dX0_drop_64 : decode cX0_drop 64 = .ok (.iload 7, 2) := by decide +kernel
theorem dX0_drop_66 : decode cX0_drop 66 = .ok (.bipush (-5), 2) := by decide +kernel
theorem dX0_drop_68 : decode cX0_drop 68 = .ok (.if_icmp .ne 37, 3) := by decide +kernel
theorem dX0_drop_71 : decode cX0_drop 71 = .ok (.iload 5, 2) := by decide +kernel
theorem dX0_drop_73 : decode cX0_drop 73 = .ok (.ifCond .le 71, 3) := by decide +kernel
theorem dX0_drop_76 : decode cX0_drop 76 = .ok (.aload_n 0, 1) := by decide +kernel
theorem dX0_drop_77 : decode cX0_drop 77 = .ok (.getfield 15, 3) := by decide +kernel
theorem dX0_drop_80 : decode cX0_drop 80 = .ok (.iload 5, 2) := by decide +kernel
theorem dX0_drop_82 : decode cX0_drop 82 = .ok (.iconst 1, 1) := by decide +kernel
theorem dX0_drop_83 : decode cX0_drop 83 = .ok (.isub, 1) := by decide +kernel
theorem dX0_drop_84 : decode cX0_drop 84 = .ok (.aload_n 0, 1) := by decide +kernel
theorem dX0_drop_85 : decode cX0_drop 85 = .ok (.getfield 15, 3) := by decide +kernel
theorem dX0_drop_88 : decode cX0_drop 88 = .ok (.iload 5, 2) := by decide +kernel
theorem dX0_drop_90 : decode cX0_drop 90 = .ok (.iconst 1, 1) := by decide +kernel
theorem dX0_drop_91 : decode cX0_drop 91 = .ok (.isub, 1) := by decide +kernel
theorem dX0_drop_92 : decode cX0_drop 92 = .ok (.iaload, 1) := by decide +kernel
theorem dX0_drop_93 : decode cX0_drop 93 = .ok (.ifCond .ne 7, 3) := by decide +kernel
theorem dX0_drop_96 : decode cX0_drop 96 = .ok (.iconst 1, 1) := by decide +kernel
theorem dX0_drop_97 : decode cX0_drop 97 = .ok (.goto 4, 3) := by decide +kernel
theorem dX0_drop_100 : decode cX0_drop 100 = .ok (.iconst 0, 1) := by decide +kernel
theorem dX0_drop_101 : decode cX0_drop 101 = .ok (.iastore, 1) := by decide +kernel
theorem dX0_drop_102 : decode cX0_drop 102 = .ok (.goto 42, 3) := by decide +kernel
theorem dX0_drop_105 : decode cX0_drop 105 = .ok (.iload 5, 2) := by decide +kernel
theorem dX0_drop_107 : decode cX0_drop 107 = .ok (.iconst 1, 1) := by decide +kernel
theorem dX0_drop_108 : decode cX0_drop 108 = .ok (.if_icmp .le 36, 3) := by decide +kernel
theorem dX0_drop_111 : decode cX0_drop 111 = .ok (.iinc 5 (-1), 3) := by decide +kernel
theorem dX0_drop_114 : decode cX0_drop 114 = .ok (.aload_n 0, 1) := by decide +kernel
theorem dX0_drop_115 : decode cX0_drop 115 = .ok (.getfield 15, 3) := by decide +kernel
theorem dX0_drop_118 : decode cX0_drop 118 = .ok (.iload 5, 2) := by decide +kernel
theorem dX0_drop_120 : decode cX0_drop 120 = .ok (.iconst 1, 1) := by decide +kernel
theorem dX0_drop_121 : decode cX0_drop 121 = .ok (.isub, 1) := by decide +kernel
theorem dX0_drop_122 : decode cX0_drop 122 = .ok (.iload 7, 2) := by decide +kernel
theorem dX0_drop_124 : decode cX0_drop 124 = .ok (.aload_n 0, 1) := by decide +kernel
theorem dX0_drop_125 : decode cX0_drop 125 = .ok (.getfield 15, 3) := by decide +kernel
theorem dX0_drop_128 : decode cX0_drop 128 = .ok (.iload 5, 2) := by decide +kernel
theorem dX0_drop_130 : decode cX0_drop 130 = .ok (.iconst 1, 1) := by decide +kernel
theorem dX0_drop_131 : decode cX0_drop 131 = .ok (.isub, 1) := by decide +kernel
theorem dX0_drop_132 : decode cX0_drop 132 = .ok (.iaload, 1) := by decide +kernel
theorem dX0_drop_133 : decode cX0_drop 133 = .ok (.aload_n 0, 1) := by decide +kernel
theorem dX0_drop_134 : decode cX0_drop 134 = .ok (.getfield 15, 3) := by decide +kernel
theorem dX0_drop_137 : decode cX0_drop 137 = .ok (.iload 5, 2) := by decide +kernel
theorem dX0_drop_139 : decode cX0_drop 139 = .ok (.iaload, 1) := by decide +kernel
theorem dX0_drop_140 : decode cX0_drop 140 = .ok (.invokestatic 87, 3) := by decide +kernel
theorem dX0_drop_143 : decode cX0_drop 143 = .ok (.iastore, 1) := by decide +kernel
theorem dX0_drop_144 : decode cX0_drop 144 = .ok (.iinc 6 1, 3) := by decide +kernel
theorem dX0_drop_147 : decode cX0_drop 147 = .ok (.goto (-141), 3) := by decide +kernel
theorem dX0_drop_150 : decode cX0_drop 150 = .ok (.iconst 0, 1) := by decide +kernel
theorem dX0_drop_151 : decode cX0_drop 151 = .ok (.bipush 9, 2) := by decide +kernel
theorem dX0_drop_153 : decode cX0_drop 153 = .ok (.iload 5, 2) := by decide +kernel
theorem dX0_drop_155 : decode cX0_drop 155 = .ok (.ifCond .le 12, 3) := by decide +kernel
theorem dX0_drop_158 : decode cX0_drop 158 = .ok (.aload_n 0, 1) := by decide +kernel
theorem dX0_drop_159 : decode cX0_drop 159 = .ok (.getfield 15, 3) := by decide +kernel
theorem dX0_drop_162 : decode cX0_drop 162 = .ok (.iconst 0, 1) := by decide +kernel
theorem dX0_drop_163 : decode cX0_drop 163 = .ok (.iaload, 1) := by decide +kernel
theorem dX0_drop_164 : decode cX0_drop 164 = .ok (.goto 4, 3) := by decide +kernel
theorem dX0_drop_167 : decode cX0_drop 167 = .ok (.iconst 0, 1) := by decide +kernel
theorem dX0_drop_168 : decode cX0_drop 168 = .ok (.invokestatic 91, 3) := by decide +kernel
theorem dX0_drop_171 : decode cX0_drop 171 = .ok (.invokestatic 97, 3) := by decide +kernel
theorem dX0_drop_174 : decode cX0_drop 174 = .ok (.ireturn, 1) := by decide +kernel
noncomputable def FX0_drop (a0 : Nat) (p1 : Int32) (p2 : Int32) (p3 : Int32) (p4 : Int32) : PP Int32 := bd (it (fun (s1 : Int32 × Int32) => (bd (gI a0 2) (fun x2 => if x2 ≤ s1.2 then pu (Sum.inr s1.1) else bd (aI (rf a0 0) 1000 s1.2) (fun x3 => bd (if x3 < (-4 : Int32) then if x3 = (-5 : Int32) then if s1.1 ≤ 0 then pu s1.1 else bd (aI (rf a0 1) 24 (s1.1 - (1 : Int32))) (fun x8 => bd (if x8 = 0 then pu (1 : Int32) else pu (0 : Int32) : PP (Int32)) (fun (v9 : Int32) => bd (uI (rf a0 1) 24 (s1.1 - (1 : Int32)) v9) (fun (_ : Unit) => pu s1.1))) else if s1.1 ≤ (1 : Int32) then pu s1.1 else lt (s1.1 + (-1 : Int32)) (fun y4 => bd (aI (rf a0 1) 24 (y4 - (1 : Int32))) (fun x5 => bd (aI (rf a0 1) 24 y4) (fun x6 => bd (FX0_join x3 x5 x6) (fun x7 => bd (uI (rf a0 1) 24 (y4 - (1 : Int32)) x7) (fun (_ : Unit) => pu y4))))) else if (24 : Int32) ≤ s1.1 then pu s1.1 else bd (FX0_operand x3 p1 p2 p3 p4) (fun x10 => bd (uI (rf a0 1) 24 s1.1 x10) (fun (_ : Unit) => lt (s1.1 + (1 : Int32)) (fun y11 => pu y11))) : PP (Int32)) (fun (v12 : Int32) => lt (s1.2 + (1 : Int32)) (fun y13 => pu (Sum.inl (v12, y13)))))) : PP ((Int32 × Int32) ⊕ (Int32)))) FU ((0 : Int32), (0 : Int32))) (fun (v14 : Int32) => bd (if v14 ≤ 0 then pu (0 : Int32) else bd (aI (rf a0 1) 24 (0 : Int32)) (fun x15 => pu x15) : PP (Int32)) (fun (v16 : Int32) => pu ((if (0 : Int32) < ((if v16 < (9 : Int32) then v16 else (9 : Int32))) then ((if v16 < (9 : Int32) then v16 else (9 : Int32))) else (0 : Int32)))))
set_option maxHeartbeats 4000000 in
set_option maxRecDepth 100000 in
theorem SX0_drop {l : Launch} {K : KK} {n : Nat} {hn : 270 ≤ n} (a0 : Nat) (p1 : Int32) (p2 : Int32) (p3 : Int32) (p4 : Int32) (h0 : ob a0 0) : CT l K n 1 mX0_drop [.ref (K.2.1 + a0), .int p1, .int p2, .int p3, .int p4] enI (FX0_drop a0 p1 p2 p3 p4) := by
  refine CT.of2 (lv2 := [(0, .ref (K.2.1 + a0)), (1, .int p1), (2, .int p2), (3, .int p3), (4, .int p4)]) (by decide) rfl hn (Nat.le_of_ble_eq_true rfl) rfl (rp_id ?_)
  unfold FX0_drop
  refine rp_iconst (0 : Int32) dX0_drop_0 (by decide) ?_
  refine rp_istore [(5, .int (0 : Int32)), (0, .ref (K.2.1 + a0)), (1, .int p1), (2, .int p2), (3, .int p3), (4, .int p4)] dX0_drop_1 (by decide) rfl ?_
  refine rp_iconst (0 : Int32) dX0_drop_3 (by decide) ?_
  refine rp_istore [(6, .int (0 : Int32)), (5, .int (0 : Int32)), (0, .ref (K.2.1 + a0)), (1, .int p1), (2, .int p2), (3, .int p3), (4, .int p4)] dX0_drop_4 (by decide) rfl ?_
  refine rp_as ?_
  refine rp_join 150 (fun v14 => [(0, .ref (K.2.1 + a0)), (5, .int v14)]) (fun _ => []) (fun v14 => ?_) (fun hX6_0 => ?_)
  · refine rp_iconst (0 : Int32) dX0_drop_150 (by decide) ?_
    refine rp_bipush (9 : Int32) dX0_drop_151 (by decide) ?_
    refine rp_iload 1 dX0_drop_153 rfl ?_
    refine rp_as ?_
    refine rp_join 168 (fun (v16 : Int32) => []) (fun v16 => [.int v16, .int (9 : Int32), .int (0 : Int32)]) (fun v16 => ?_) (fun hJ168 => ?_)
    · refine rp_mmin (mw (i := 919) (by decide +kernel)) (by omega) (Nat.le_of_ble_eq_true rfl) dX0_drop_168 ?_
      refine rp_mmax (mw (i := 920) (by decide +kernel)) (by omega) (Nat.le_of_ble_eq_true rfl) dX0_drop_171 ?_
      exact rp_pu (rp_iret rfl dX0_drop_174)
    refine rp_if_le 167 dX0_drop_155 (by decide) ?_ ?_
    · refine rp_iconst (0 : Int32) dX0_drop_167 (by decide) ?_
      exact rp_sub [] rfl (rp_pu (hJ168 (0 : Int32)))
    · refine rp_aload_n 0 dX0_drop_158 rfl ?_
      refine rp_getR fi_X0_15 h0 rfl dX0_drop_159 ?_
      refine rp_iconst (0 : Int32) dX0_drop_162 (by decide) ?_
      refine rp_iald (tX0_1 h0) dX0_drop_163 (fun x15 => ?_)
      refine rp_goto 168 dX0_drop_164 (by decide) ?_
      exact rp_sub [] rfl (rp_pu (hJ168 x15))
  refine rp_sub [2, 3, 4, 5, 6, 1, 0] rfl (rp_it (fun (s1 : Int32 × Int32) => [(0, .ref (K.2.1 + a0)), (1, .int p1), (2, .int p2), (3, .int p3), (4, .int p4), (5, .int s1.1), (6, .int s1.2)]) (fun N6 ih6 s1 => ?_) FU ((0 : Int32), (0 : Int32)))
  refine rp_iload 6 dX0_drop_6 rfl ?_
  refine rp_aload_n 0 dX0_drop_8 rfl ?_
  refine rp_getI fi_X0_24 h0 rfl dX0_drop_9 (fun x2 => ?_)
  refine rp_icmp_ge 150 dX0_drop_12 (by decide) ?_ ?_
  · exact rp_sub [0, 5] rfl (rp_puR (hX6_0 s1.1))
  · refine rp_aload_n 0 dX0_drop_15 rfl ?_
    refine rp_getR fi_X0_9 h0 rfl dX0_drop_16 ?_
    refine rp_iload 6 dX0_drop_19 rfl ?_
    refine rp_iald (tX0_0 h0) dX0_drop_21 (fun x3 => ?_)
    refine rp_istore [(7, .int x3), (0, .ref (K.2.1 + a0)), (1, .int p1), (2, .int p2), (3, .int p3), (4, .int p4), (5, .int s1.1), (6, .int s1.2)] dX0_drop_22 (by decide) rfl ?_
    refine rp_iload 0 dX0_drop_24 rfl ?_
    refine rp_bipush (-4 : Int32) dX0_drop_26 (by decide) ?_
    refine rp_as ?_
    refine rp_join 144 (fun (v12 : Int32) => [(0, .ref (K.2.1 + a0)), (1, .int p1), (2, .int p2), (3, .int p3), (4, .int p4), (5, .int v12), (6, .int s1.2)]) (fun v12 => []) (fun v12 => ?_) (fun hJ144 => ?_)
    · refine rp_iinc (fun y13 => [(6, .int y13), (0, .ref (K.2.1 + a0)), (1, .int p1), (2, .int p2), (3, .int p3), (4, .int p4), (5, .int v12)]) 6 dX0_drop_144 rfl (by rfl) (by decide) (fun y13 => rfl) (fun y13 => ?_)
      refine rp_goto 6 dX0_drop_147 (by decide) ?_
      exact rp_sub [1, 2, 3, 4, 5, 6, 0] rfl (ih6 (v12, y13))
    refine rp_icmp_lt 64 dX0_drop_28 (by decide) ?_ ?_
    · refine rp_iload 0 dX0_drop_64 rfl ?_
      refine rp_bipush (-5 : Int32) dX0_drop_66 (by decide) ?_
      refine rp_icmp_ne 105 dX0_drop_68 (by decide) ?_ ?_
      · refine rp_iload 6 dX0_drop_105 rfl ?_
        refine rp_iconst (1 : Int32) dX0_drop_107 (by decide) ?_
        refine rp_icmp_le 144 dX0_drop_108 (by decide) ?_ ?_
        · exact rp_sub [1, 2, 3, 4, 5, 6, 7] rfl (rp_pu (hJ144 s1.1))
        · refine rp_iinc (fun y4 => [(5, .int y4), (7, .int x3), (0, .ref (K.2.1 + a0)), (1, .int p1), (2, .int p2), (3, .int p3), (4, .int p4), (6, .int s1.2)]) 6 dX0_drop_111 rfl (by rfl) (by decide) (fun y4 => rfl) (fun y4 => ?_)
          refine rp_aload_n 2 dX0_drop_114 rfl ?_
          refine rp_getR fi_X0_15 h0 rfl dX0_drop_115 ?_
          refine rp_iload 0 dX0_drop_118 rfl ?_
          refine rp_iconst (1 : Int32) dX0_drop_120 (by decide) ?_
          refine rp_isub dX0_drop_121 ?_
          refine rp_iload 1 dX0_drop_122 rfl ?_
          refine rp_aload_n 2 dX0_drop_124 rfl ?_
          refine rp_getR fi_X0_15 h0 rfl dX0_drop_125 ?_
          refine rp_iload 0 dX0_drop_128 rfl ?_
          refine rp_iconst (1 : Int32) dX0_drop_130 (by decide) ?_
          refine rp_isub dX0_drop_131 ?_
          refine rp_iald (tX0_1 h0) dX0_drop_132 (fun x5 => ?_)
          refine rp_aload_n 2 dX0_drop_133 rfl ?_
          refine rp_getR fi_X0_15 h0 rfl dX0_drop_134 ?_
          refine rp_iload 0 dX0_drop_137 rfl ?_
          refine rp_iald (tX0_1 h0) dX0_drop_139 (fun x6 => ?_)
          refine rp_callSi [.int x3, .int x5, .int x6] (SX0_join (hn := hn) x3 x5 x6) csX0_join (mw (i := 916) (by decide +kernel)) (by omega) rfl rfl (Nat.le_of_ble_eq_true rfl) dX0_drop_140 (fun x7 => ?_)
          refine rp_iast (tX0_1 h0) dX0_drop_143 ?_
          exact rp_sub [2, 3, 4, 5, 6, 0, 7] rfl (rp_pu (hJ144 y4))
      · refine rp_iload 6 dX0_drop_71 rfl ?_
        refine rp_if_le 144 dX0_drop_73 (by decide) ?_ ?_
        · exact rp_sub [1, 2, 3, 4, 5, 6, 7] rfl (rp_pu (hJ144 s1.1))
        · refine rp_aload_n 1 dX0_drop_76 rfl ?_
          refine rp_getR fi_X0_15 h0 rfl dX0_drop_77 ?_
          refine rp_iload 6 dX0_drop_80 rfl ?_
          refine rp_iconst (1 : Int32) dX0_drop_82 (by decide) ?_
          refine rp_isub dX0_drop_83 ?_
          refine rp_aload_n 1 dX0_drop_84 rfl ?_
          refine rp_getR fi_X0_15 h0 rfl dX0_drop_85 ?_
          refine rp_iload 6 dX0_drop_88 rfl ?_
          refine rp_iconst (1 : Int32) dX0_drop_90 (by decide) ?_
          refine rp_isub dX0_drop_91 ?_
          refine rp_iald (tX0_1 h0) dX0_drop_92 (fun x8 => ?_)
          refine rp_as ?_
          refine rp_join 101 (fun (v9 : Int32) => [(0, .ref (K.2.1 + a0)), (1, .int p1), (2, .int p2), (3, .int p3), (4, .int p4), (5, .int s1.1), (6, .int s1.2)]) (fun v9 => [.int v9, .int (s1.1 - (1 : Int32)), .ref (K.2.1 + (rf a0 1))]) (fun v9 => ?_) (fun hJ101 => ?_)
          · refine rp_iast (tX0_1 h0) dX0_drop_101 ?_
            refine rp_goto 144 dX0_drop_102 (by decide) ?_
            exact rp_sub [0, 1, 2, 3, 4, 5, 6] rfl (rp_pu (hJ144 s1.1))
          refine rp_if_ne 100 dX0_drop_93 (by decide) ?_ ?_
          · refine rp_iconst (0 : Int32) dX0_drop_100 (by decide) ?_
            exact rp_sub [1, 2, 3, 4, 5, 6, 7] rfl (rp_pu (hJ101 (0 : Int32)))
          · refine rp_iconst (1 : Int32) dX0_drop_96 (by decide) ?_
            refine rp_goto 101 dX0_drop_97 (by decide) ?_
            exact rp_sub [1, 2, 3, 4, 5, 6, 7] rfl (rp_pu (hJ101 (1 : Int32)))
    · refine rp_iload 6 dX0_drop_31 rfl ?_
      refine rp_aload_n 1 dX0_drop_33 rfl ?_
      refine rp_getR fi_X0_15 h0 rfl dX0_drop_34 ?_
      refine rp_alen (v := (24 : Int32)) (tX0_1 h0) rfl rfl dX0_drop_37 ?_
      refine rp_icmp_ge 144 dX0_drop_38 (by decide) ?_ ?_
      · exact rp_sub [1, 2, 3, 4, 5, 6, 7] rfl (rp_pu (hJ144 s1.1))
      · refine rp_aload_n 1 dX0_drop_41 rfl ?_
        refine rp_getR fi_X0_15 h0 rfl dX0_drop_42 ?_
        refine rp_iload 6 dX0_drop_45 rfl ?_
        refine rp_iload 0 dX0_drop_47 rfl ?_
        refine rp_iload_n 2 dX0_drop_49 rfl ?_
        refine rp_iload_n 3 dX0_drop_50 rfl ?_
        refine rp_iload_n 4 dX0_drop_51 rfl ?_
        refine rp_iload 5 dX0_drop_52 rfl ?_
        refine rp_callSi [.int x3, .int p1, .int p2, .int p3, .int p4] (SX0_operand (hn := hn) x3 p1 p2 p3 p4) csX0_operand (mw (i := 913) (by decide +kernel)) (by omega) rfl rfl (Nat.le_of_ble_eq_true rfl) dX0_drop_54 (fun x10 => ?_)
        refine rp_iast (tX0_1 h0) dX0_drop_57 ?_
        refine rp_iinc (fun y11 => [(5, .int y11), (7, .int x3), (0, .ref (K.2.1 + a0)), (1, .int p1), (2, .int p2), (3, .int p3), (4, .int p4), (6, .int s1.2)]) 6 dX0_drop_58 rfl (by rfl) (by decide) (fun y11 => rfl) (fun y11 => ?_)
        refine rp_goto 144 dX0_drop_61 (by decide) ?_
        exact rp_sub [2, 3, 4, 5, 6, 0, 7] rfl (rp_pu (hJ144 y11))

theorem dX3_copyFrom_0 : decode cX3_copyFrom 0 = .ok (.aload_n 1, 1) := by decide +kernel
theorem dX3_copyFrom_1 : decode cX3_copyFrom 1 = .ok (.getfield 9, 3) := by decide +kernel
theorem dX3_copyFrom_4 : decode cX3_copyFrom 4 = .ok (.iconst 0, 1) := by decide +kernel
theorem dX3_copyFrom_5 : decode cX3_copyFrom 5 = .ok (.aload_n 0, 1) := by decide +kernel
theorem dX3_copyFrom_6 : decode cX3_copyFrom 6 = .ok (.getfield 9, 3) := by decide +kernel
theorem dX3_copyFrom_9 : decode cX3_copyFrom 9 = .ok (.iconst 0, 1) := by decide +kernel
theorem dX3_copyFrom_10 : decode cX3_copyFrom 10 = .ok (.bipush 40, 2) := by decide +kernel
theorem dX3_copyFrom_12 : decode cX3_copyFrom 12 = .ok (.invokestatic 24, 3) := by decide +kernel
theorem dX3_copyFrom_15 : decode cX3_copyFrom 15 = .ok (.aload_n 1, 1) := by decide +kernel
theorem dX3_copyFrom_16 : decode cX3_copyFrom 16 = .ok (.getfield 15, 3) := by decide +kernel
theorem dX3_copyFrom_19 : decode cX3_copyFrom 19 = .ok (.iconst 0, 1) := by decide +kernel
theorem dX3_copyFrom_20 : decode cX3_copyFrom 20 = .ok (.aload_n 0, 1) := by decide +kernel
theorem dX3_copyFrom_21 : decode cX3_copyFrom 21 = .ok (.getfield 15, 3) := by decide +kernel
theorem dX3_copyFrom_24 : decode cX3_copyFrom 24 = .ok (.iconst 0, 1) := by decide +kernel
theorem dX3_copyFrom_25 : decode cX3_copyFrom 25 = .ok (.bipush 40, 2) := by decide +kernel
theorem dX3_copyFrom_27 : decode cX3_copyFrom 27 = .ok (.invokestatic 24, 3) := by decide +kernel
theorem dX3_copyFrom_30 : decode cX3_copyFrom 30 = .ok (.aload_n 1, 1) := by decide +kernel
theorem dX3_copyFrom_31 : decode cX3_copyFrom 31 = .ok (.getfield 18, 3) := by decide +kernel
theorem dX3_copyFrom_34 : decode cX3_copyFrom 34 = .ok (.iconst 0, 1) := by decide +kernel
theorem dX3_copyFrom_35 : decode cX3_copyFrom 35 = .ok (.aload_n 0, 1) := by decide +kernel
theorem dX3_copyFrom_36 : decode cX3_copyFrom 36 = .ok (.getfield 18, 3) := by decide +kernel
theorem dX3_copyFrom_39 : decode cX3_copyFrom 39 = .ok (.iconst 0, 1) := by decide +kernel
theorem dX3_copyFrom_40 : decode cX3_copyFrom 40 = .ok (.bipush 40, 2) := by decide +kernel
theorem dX3_copyFrom_42 : decode cX3_copyFrom 42 = .ok (.invokestatic 24, 3) := by decide +kernel
theorem dX3_copyFrom_45 : decode cX3_copyFrom 45 = .ok (.aload_n 1, 1) := by decide +kernel
theorem dX3_copyFrom_46 : decode cX3_copyFrom 46 = .ok (.getfield 21, 3) := by decide +kernel
theorem dX3_copyFrom_49 : decode cX3_copyFrom 49 = .ok (.iconst 0, 1) := by decide +kernel
theorem dX3_copyFrom_50 : decode cX3_copyFrom 50 = .ok (.aload_n 0, 1) := by decide +kernel
theorem dX3_copyFrom_51 : decode cX3_copyFrom 51 = .ok (.getfield 21, 3) := by decide +kernel
theorem dX3_copyFrom_54 : decode cX3_copyFrom 54 = .ok (.iconst 0, 1) := by decide +kernel
theorem dX3_copyFrom_55 : decode cX3_copyFrom 55 = .ok (.bipush 40, 2) := by decide +kernel
theorem dX3_copyFrom_57 : decode cX3_copyFrom 57 = .ok (.invokestatic 24, 3) := by decide +kernel
theorem dX3_copyFrom_60 : decode cX3_copyFrom 60 = .ok (.aload_n 0, 1) := by decide +kernel
theorem dX3_copyFrom_61 : decode cX3_copyFrom 61 = .ok (.aload_n 1, 1) := by decide +kernel
theorem dX3_copyFrom_62 : decode cX3_copyFrom 62 = .ok (.getfield 30, 3) := by decide +kernel
theorem dX3_copyFrom_65 : decode cX3_copyFrom 65 = .ok (.putfield 30, 3) := by decide +kernel
theorem dX3_copyFrom_68 : decode cX3_copyFrom 68 = .ok (.return_, 1) := by decide +kernel
noncomputable def FX3_copyFrom (a0 : Nat) (p1 : Nat) : PP Unit := bd (cpI (rf p1 0) (rf a0 0) 40) (fun (_ : Unit) => bd (cpI (rf p1 1) (rf a0 1) 40) (fun (_ : Unit) => bd (cpI (rf p1 2) (rf a0 2) 40) (fun (_ : Unit) => bd (cpI (rf p1 3) (rf a0 3) 40) (fun (_ : Unit) => bd (gI p1 4) (fun x1 => bd (sI a0 4 x1) (fun (_ : Unit) => pu ()))))))
set_option maxHeartbeats 4000000 in
set_option maxRecDepth 100000 in
theorem SX3_copyFrom {l : Launch} {K : KK} {n : Nat} {hn : 270 ≤ n} (a0 : Nat) (p1 : Nat) (h0 : ob a0 3) (h_p1 : ob p1 3) : CT l K n 1 mX3_copyFrom [.ref (K.2.1 + a0), .ref (K.2.1 + p1)] enU (FX3_copyFrom a0 p1) := by
  refine CT.of2 (lv2 := [(0, .ref (K.2.1 + a0)), (1, .ref (K.2.1 + p1))]) (by decide) rfl hn (Nat.le_of_ble_eq_true rfl) rfl (rp_id ?_)
  unfold FX3_copyFrom
  refine rp_aload_n 1 dX3_copyFrom_0 rfl ?_
  refine rp_getR fi_X3_9 h_p1 rfl dX3_copyFrom_1 ?_
  refine rp_iconst (0 : Int32) dX3_copyFrom_4 (by decide) ?_
  refine rp_aload_n 0 dX3_copyFrom_5 rfl ?_
  refine rp_getR fi_X3_9 h0 rfl dX3_copyFrom_6 ?_
  refine rp_iconst (0 : Int32) dX3_copyFrom_9 (by decide) ?_
  refine rp_bipush (40 : Int32) dX3_copyFrom_10 (by decide) ?_
  refine rp_cpI (n0 := 40) (n1 := 40) 40 (tX3_0 h_p1) (tX3_0 h0) (by decide) (by decide) (by decide) (mw (i := 778) (by decide +kernel)) (by omega) (Nat.le_of_ble_eq_true rfl) dX3_copyFrom_12 ?_
  refine rp_aload_n 1 dX3_copyFrom_15 rfl ?_
  refine rp_getR fi_X3_15 h_p1 rfl dX3_copyFrom_16 ?_
  refine rp_iconst (0 : Int32) dX3_copyFrom_19 (by decide) ?_
  refine rp_aload_n 0 dX3_copyFrom_20 rfl ?_
  refine rp_getR fi_X3_15 h0 rfl dX3_copyFrom_21 ?_
  refine rp_iconst (0 : Int32) dX3_copyFrom_24 (by decide) ?_
  refine rp_bipush (40 : Int32) dX3_copyFrom_25 (by decide) ?_
  refine rp_cpI (n0 := 40) (n1 := 40) 40 (tX3_1 h_p1) (tX3_1 h0) (by decide) (by decide) (by decide) (mw (i := 778) (by decide +kernel)) (by omega) (Nat.le_of_ble_eq_true rfl) dX3_copyFrom_27 ?_
  refine rp_aload_n 1 dX3_copyFrom_30 rfl ?_
  refine rp_getR fi_X3_18 h_p1 rfl dX3_copyFrom_31 ?_
  refine rp_iconst (0 : Int32) dX3_copyFrom_34 (by decide) ?_
  refine rp_aload_n 0 dX3_copyFrom_35 rfl ?_
  refine rp_getR fi_X3_18 h0 rfl dX3_copyFrom_36 ?_
  refine rp_iconst (0 : Int32) dX3_copyFrom_39 (by decide) ?_
  refine rp_bipush (40 : Int32) dX3_copyFrom_40 (by decide) ?_
  refine rp_cpI (n0 := 40) (n1 := 40) 40 (tX3_2 h_p1) (tX3_2 h0) (by decide) (by decide) (by decide) (mw (i := 778) (by decide +kernel)) (by omega) (Nat.le_of_ble_eq_true rfl) dX3_copyFrom_42 ?_
  refine rp_aload_n 1 dX3_copyFrom_45 rfl ?_
  refine rp_getR fi_X3_21 h_p1 rfl dX3_copyFrom_46 ?_
  refine rp_iconst (0 : Int32) dX3_copyFrom_49 (by decide) ?_
  refine rp_aload_n 0 dX3_copyFrom_50 rfl ?_
  refine rp_getR fi_X3_21 h0 rfl dX3_copyFrom_51 ?_
  refine rp_iconst (0 : Int32) dX3_copyFrom_54 (by decide) ?_
  refine rp_bipush (40 : Int32) dX3_copyFrom_55 (by decide) ?_
  refine rp_cpI (n0 := 40) (n1 := 40) 40 (tX3_3 h_p1) (tX3_3 h0) (by decide) (by decide) (by decide) (mw (i := 778) (by decide +kernel)) (by omega) (Nat.le_of_ble_eq_true rfl) dX3_copyFrom_57 ?_
  refine rp_aload_n 0 dX3_copyFrom_60 rfl ?_
  refine rp_aload_n 1 dX3_copyFrom_61 rfl ?_
  refine rp_getI fi_X3_30 h_p1 rfl dX3_copyFrom_62 (fun x1 => ?_)
  refine rp_putI fi_X3_30 fp_X3_4 h0 rfl dX3_copyFrom_65 ?_
  exact rp_pu (rp_vret rfl dX3_copyFrom_68)

theorem dX3_deedOf_0 : decode cX3_deedOf 0 = .ok (.aload_n 0, 1) := by decide +kernel
theorem dX3_deedOf_1 : decode cX3_deedOf 1 = .ok (.getstatic 62, 3) := by decide +kernel
theorem dX3_deedOf_4 : decode cX3_deedOf 4 = .ok (.if_acmp .ne 5, 3) := by decide +kernel
theorem dX3_deedOf_7 : decode cX3_deedOf 7 = .ok (.iconst 0, 1) := by decide +kernel
theorem dX3_deedOf_8 : decode cX3_deedOf 8 = .ok (.ireturn, 1) := by decide +kernel
theorem dX3_deedOf_9 : decode cX3_deedOf 9 = .ok (.aload_n 0, 1) := by decide +kernel
theorem dX3_deedOf_10 : decode cX3_deedOf 10 = .ok (.getstatic 67, 3) := by decide +kernel
theorem dX3_deedOf_13 : decode cX3_deedOf 13 = .ok (.if_acmp .ne 5, 3) := by decide +kernel
theorem dX3_deedOf_16 : decode cX3_deedOf 16 = .ok (.iconst 1, 1) := by decide +kernel
theorem dX3_deedOf_17 : decode cX3_deedOf 17 = .ok (.ireturn, 1) := by decide +kernel
theorem dX3_deedOf_18 : decode cX3_deedOf 18 = .ok (.aload_n 0, 1) := by decide +kernel
theorem dX3_deedOf_19 : decode cX3_deedOf 19 = .ok (.getstatic 70, 3) := by decide +kernel
theorem dX3_deedOf_22 : decode cX3_deedOf 22 = .ok (.if_acmp .ne 5, 3) := by decide +kernel
theorem dX3_deedOf_25 : decode cX3_deedOf 25 = .ok (.iconst 2, 1) := by decide +kernel
theorem dX3_deedOf_26 : decode cX3_deedOf 26 = .ok (.ireturn, 1) := by decide +kernel
theorem dX3_deedOf_27 : decode cX3_deedOf 27 = .ok (.aload_n 0, 1) := by decide +kernel
theorem dX3_deedOf_28 : decode cX3_deedOf 28 = .ok (.getstatic 73, 3) := by decide +kernel
theorem dX3_deedOf_31 : decode cX3_deedOf 31 = .ok (.if_acmp .ne 7, 3) := by decide +kernel
theorem dX3_deedOf_34 : decode cX3_deedOf 34 = .ok (.iconst 3, 1) := by decide +kernel
theorem dX3_deedOf_35 : decode cX3_deedOf 35 = .ok (.goto 4, 3) := by decide +kernel
theorem dX3_deedOf_38 : decode cX3_deedOf 38 = .ok (.iconst (-1), 1) := by decide +kernel
theorem dX3_deedOf_39 : decode cX3_deedOf 39 = .ok (.ireturn, 1) := by decide +kernel
noncomputable def FX3_deedOf (p1 : Option (Fin 23)) : PP Int32 := if p1 = ((some (8 : Fin 23))) then pu (0 : Int32) else if p1 = ((some (9 : Fin 23))) then pu (1 : Int32) else if p1 = ((some (10 : Fin 23))) then pu (2 : Int32) else bd (if p1 = ((some (11 : Fin 23))) then pu (3 : Int32) else pu (-1 : Int32) : PP (Int32)) (fun (v1 : Int32) => pu v1)
set_option maxHeartbeats 4000000 in
set_option maxRecDepth 100000 in
theorem SX3_deedOf {l : Launch} {K : KK} {n : Nat} {hn : 270 ≤ n} (p1 : Option (Fin 23)) : CT l K n 0 mX3_deedOf [wr K p1] enI (FX3_deedOf p1) := by
  refine CT.of2 (lv2 := [(0, wr K p1)]) (by decide) rfl hn (by cases p1 <;> exact Nat.le_of_ble_eq_true rfl) (by cases p1 <;> rfl) (rp_id ?_)
  unfold FX3_deedOf
  refine rp_wload_n 0 dX3_deedOf_0 rfl ?_
  refine rp_getWord (8 : Fin 23) (mw (i := 756) (by decide +kernel)) dX3_deedOf_1 ?_
  refine rp_acmp_ne 9 dX3_deedOf_4 (by decide) ?_ ?_
  · refine rp_wload_n 0 dX3_deedOf_9 rfl ?_
    refine rp_getWord (9 : Fin 23) (mw (i := 758) (by decide +kernel)) dX3_deedOf_10 ?_
    refine rp_acmp_ne 18 dX3_deedOf_13 (by decide) ?_ ?_
    · refine rp_wload_n 0 dX3_deedOf_18 rfl ?_
      refine rp_getWord (10 : Fin 23) (mw (i := 760) (by decide +kernel)) dX3_deedOf_19 ?_
      refine rp_acmp_ne 27 dX3_deedOf_22 (by decide) ?_ ?_
      · refine rp_wload_n 0 dX3_deedOf_27 rfl ?_
        refine rp_getWord (11 : Fin 23) (mw (i := 762) (by decide +kernel)) dX3_deedOf_28 ?_
        refine rp_as ?_
        refine rp_join 39 (fun (v1 : Int32) => []) (fun v1 => [.int v1]) (fun v1 => ?_) (fun hJ39 => ?_)
        · exact rp_pu (rp_iret rfl dX3_deedOf_39)
        refine rp_acmp_ne 38 dX3_deedOf_31 (by decide) ?_ ?_
        · refine rp_iconst (-1 : Int32) dX3_deedOf_38 (by decide) ?_
          exact rp_sub [] rfl (rp_pu (hJ39 (-1 : Int32)))
        · refine rp_iconst (3 : Int32) dX3_deedOf_34 (by decide) ?_
          refine rp_goto 39 dX3_deedOf_35 (by decide) ?_
          exact rp_sub [] rfl (rp_pu (hJ39 (3 : Int32)))
      · refine rp_iconst (2 : Int32) dX3_deedOf_25 (by decide) ?_
        exact rp_pu (rp_iret rfl dX3_deedOf_26)
    · refine rp_iconst (1 : Int32) dX3_deedOf_16 (by decide) ?_
      exact rp_pu (rp_iret rfl dX3_deedOf_17)
  · refine rp_iconst (0 : Int32) dX3_deedOf_7 (by decide) ?_
    exact rp_pu (rp_iret rfl dX3_deedOf_8)

theorem dX4_begin_0 : decode cX4_begin 0 = .ok (.iconst 0, 1) := by decide +kernel
theorem dX4_begin_1 : decode cX4_begin 1 = .ok (.istore_n 1, 1) := by decide +kernel
theorem dX4_begin_2 : decode cX4_begin 2 = .ok (.iload_n 1, 1) := by decide +kernel
theorem dX4_begin_3 : decode cX4_begin 3 = .ok (.bipush 6, 2) := by decide +kernel
theorem dX4_begin_5 : decode cX4_begin 5 = .ok (.if_icmp .ge 38, 3) := by decide +kernel
theorem dX4_begin_8 : decode cX4_begin 8 = .ok (.aload_n 0, 1) := by decide +kernel
theorem dX4_begin_9 : decode cX4_begin 9 = .ok (.getfield 9, 3) := by decide +kernel
theorem dX4_begin_12 : decode cX4_begin 12 = .ok (.iload_n 1, 1) := by decide +kernel
theorem dX4_begin_13 : decode cX4_begin 13 = .ok (.aload_n 0, 1) := by decide +kernel
theorem dX4_begin_14 : decode cX4_begin 14 = .ok (.getfield 24, 3) := by decide +kernel
theorem dX4_begin_17 : decode cX4_begin 17 = .ok (.getfield 28, 3) := by decide +kernel
theorem dX4_begin_20 : decode cX4_begin 20 = .ok (.iload_n 1, 1) := by decide +kernel
theorem dX4_begin_21 : decode cX4_begin 21 = .ok (.iaload, 1) := by decide +kernel
theorem dX4_begin_22 : decode cX4_begin 22 = .ok (.iastore, 1) := by decide +kernel
theorem dX4_begin_23 : decode cX4_begin 23 = .ok (.aload_n 0, 1) := by decide +kernel
theorem dX4_begin_24 : decode cX4_begin 24 = .ok (.getfield 15, 3) := by decide +kernel
theorem dX4_begin_27 : decode cX4_begin 27 = .ok (.iload_n 1, 1) := by decide +kernel
theorem dX4_begin_28 : decode cX4_begin 28 = .ok (.iconst (-1), 1) := by decide +kernel
theorem dX4_begin_29 : decode cX4_begin 29 = .ok (.iastore, 1) := by decide +kernel
theorem dX4_begin_30 : decode cX4_begin 30 = .ok (.aload_n 0, 1) := by decide +kernel
theorem dX4_begin_31 : decode cX4_begin 31 = .ok (.getfield 18, 3) := by decide +kernel
theorem dX4_begin_34 : decode cX4_begin 34 = .ok (.iload_n 1, 1) := by decide +kernel
theorem dX4_begin_35 : decode cX4_begin 35 = .ok (.iconst 0, 1) := by decide +kernel
theorem dX4_begin_36 : decode cX4_begin 36 = .ok (.iastore, 1) := by decide +kernel
theorem dX4_begin_37 : decode cX4_begin 37 = .ok (.iinc 1 1, 3) := by decide +kernel
theorem dX4_begin_40 : decode cX4_begin 40 = .ok (.goto (-38), 3) := by decide +kernel
theorem dX4_begin_43 : decode cX4_begin 43 = .ok (.aload_n 0, 1) := by decide +kernel
theorem dX4_begin_44 : decode cX4_begin 44 = .ok (.iconst 0, 1) := by decide +kernel
theorem dX4_begin_45 : decode cX4_begin 45 = .ok (.putfield 33, 3) := by decide +kernel
theorem dX4_begin_48 : decode cX4_begin 48 = .ok (.return_, 1) := by decide +kernel
noncomputable def FX4_begin (a0 : Nat) : PP Unit := bd (it (fun (s1 : Int32) => (if (6 : Int32) ≤ s1 then pu (Sum.inr ()) else bd (aI (rf (rf a0 0) 7) 6 s1) (fun x2 => bd (uI (rf a0 1) 6 s1 x2) (fun (_ : Unit) => bd (uI (rf a0 2) 6 s1 (-1 : Int32)) (fun (_ : Unit) => bd (uI (rf a0 3) 6 s1 (0 : Int32)) (fun (_ : Unit) => lt (s1 + (1 : Int32)) (fun y3 => pu (Sum.inl y3)))))) : PP ((Int32) ⊕ (Unit)))) FU (0 : Int32)) (fun (v4 : Unit) => bd (sI a0 5 (0 : Int32)) (fun (_ : Unit) => pu ()))
set_option maxHeartbeats 4000000 in
set_option maxRecDepth 100000 in
theorem SX4_begin {l : Launch} {K : KK} {n : Nat} {hn : 270 ≤ n} (a0 : Nat) (h0 : ob a0 4) : CT l K n 0 mX4_begin [.ref (K.2.1 + a0)] enU (FX4_begin a0) := by
  refine CT.of2 (lv2 := [(0, .ref (K.2.1 + a0))]) (by decide) rfl hn (Nat.le_of_ble_eq_true rfl) rfl (rp_id ?_)
  unfold FX4_begin
  refine rp_iconst (0 : Int32) dX4_begin_0 (by decide) ?_
  refine rp_istore_n [(1, .int (0 : Int32)), (0, .ref (K.2.1 + a0))] dX4_begin_1 (by decide) rfl ?_
  refine rp_as ?_
  refine rp_join 43 (fun v4 => [(0, .ref (K.2.1 + a0))]) (fun _ => []) (fun v4 => ?_) (fun hX2_0 => ?_)
  · refine rp_aload_n 0 dX4_begin_43 rfl ?_
    refine rp_iconst (0 : Int32) dX4_begin_44 (by decide) ?_
    refine rp_putI fi_X4_33 fp_X4_5 h0 rfl dX4_begin_45 ?_
    exact rp_pu (rp_vret rfl dX4_begin_48)
  refine rp_sub [1, 0] rfl (rp_it (fun (s1 : Int32) => [(0, .ref (K.2.1 + a0)), (1, .int s1)]) (fun N2 ih2 s1 => ?_) FU (0 : Int32))
  refine rp_iload_n 1 dX4_begin_2 rfl ?_
  refine rp_bipush (6 : Int32) dX4_begin_3 (by decide) ?_
  refine rp_icmp_ge 43 dX4_begin_5 (by decide) ?_ ?_
  · exact rp_sub [0] rfl (rp_puR (hX2_0 ()))
  · refine rp_aload_n 0 dX4_begin_8 rfl ?_
    refine rp_getR fi_X4_9 h0 rfl dX4_begin_9 ?_
    refine rp_iload_n 1 dX4_begin_12 rfl ?_
    refine rp_aload_n 0 dX4_begin_13 rfl ?_
    refine rp_getR fi_X4_24 h0 rfl dX4_begin_14 ?_
    refine rp_getR fi_X4_28 (tX4_0 h0) rfl dX4_begin_17 ?_
    refine rp_iload_n 1 dX4_begin_20 rfl ?_
    refine rp_iald (tX7_7 (tX4_0 h0)) dX4_begin_21 (fun x2 => ?_)
    refine rp_iast (tX4_1 h0) dX4_begin_22 ?_
    refine rp_aload_n 0 dX4_begin_23 rfl ?_
    refine rp_getR fi_X4_15 h0 rfl dX4_begin_24 ?_
    refine rp_iload_n 1 dX4_begin_27 rfl ?_
    refine rp_iconst (-1 : Int32) dX4_begin_28 (by decide) ?_
    refine rp_iast (tX4_2 h0) dX4_begin_29 ?_
    refine rp_aload_n 0 dX4_begin_30 rfl ?_
    refine rp_getR fi_X4_18 h0 rfl dX4_begin_31 ?_
    refine rp_iload_n 1 dX4_begin_34 rfl ?_
    refine rp_iconst (0 : Int32) dX4_begin_35 (by decide) ?_
    refine rp_iast (tX4_3 h0) dX4_begin_36 ?_
    refine rp_iinc (fun y3 => [(1, .int y3), (0, .ref (K.2.1 + a0))]) 1 dX4_begin_37 rfl (by rfl) (by decide) (fun y3 => rfl) (fun y3 => ?_)
    refine rp_goto 2 dX4_begin_40 (by decide) ?_
    exact rp_sub [1, 0] rfl (ih2 y3)

theorem dX4_copyFrom_0 : decode cX4_copyFrom 0 = .ok (.aload_n 1, 1) := by decide +kernel
theorem dX4_copyFrom_1 : decode cX4_copyFrom 1 = .ok (.getfield 9, 3) := by decide +kernel
theorem dX4_copyFrom_4 : decode cX4_copyFrom 4 = .ok (.iconst 0, 1) := by decide +kernel
theorem dX4_copyFrom_5 : decode cX4_copyFrom 5 = .ok (.aload_n 0, 1) := by decide +kernel
theorem dX4_copyFrom_6 : decode cX4_copyFrom 6 = .ok (.getfield 9, 3) := by decide +kernel
theorem dX4_copyFrom_9 : decode cX4_copyFrom 9 = .ok (.iconst 0, 1) := by decide +kernel
theorem dX4_copyFrom_10 : decode cX4_copyFrom 10 = .ok (.bipush 6, 2) := by decide +kernel
theorem dX4_copyFrom_12 : decode cX4_copyFrom 12 = .ok (.invokestatic 37, 3) := by decide +kernel
theorem dX4_copyFrom_15 : decode cX4_copyFrom 15 = .ok (.aload_n 1, 1) := by decide +kernel
theorem dX4_copyFrom_16 : decode cX4_copyFrom 16 = .ok (.getfield 15, 3) := by decide +kernel
theorem dX4_copyFrom_19 : decode cX4_copyFrom 19 = .ok (.iconst 0, 1) := by decide +kernel
theorem dX4_copyFrom_20 : decode cX4_copyFrom 20 = .ok (.aload_n 0, 1) := by decide +kernel
theorem dX4_copyFrom_21 : decode cX4_copyFrom 21 = .ok (.getfield 15, 3) := by decide +kernel
theorem dX4_copyFrom_24 : decode cX4_copyFrom 24 = .ok (.iconst 0, 1) := by decide +kernel
theorem dX4_copyFrom_25 : decode cX4_copyFrom 25 = .ok (.bipush 6, 2) := by decide +kernel
theorem dX4_copyFrom_27 : decode cX4_copyFrom 27 = .ok (.invokestatic 37, 3) := by decide +kernel
theorem dX4_copyFrom_30 : decode cX4_copyFrom 30 = .ok (.aload_n 1, 1) := by decide +kernel
theorem dX4_copyFrom_31 : decode cX4_copyFrom 31 = .ok (.getfield 18, 3) := by decide +kernel
theorem dX4_copyFrom_34 : decode cX4_copyFrom 34 = .ok (.iconst 0, 1) := by decide +kernel
theorem dX4_copyFrom_35 : decode cX4_copyFrom 35 = .ok (.aload_n 0, 1) := by decide +kernel
theorem dX4_copyFrom_36 : decode cX4_copyFrom 36 = .ok (.getfield 18, 3) := by decide +kernel
theorem dX4_copyFrom_39 : decode cX4_copyFrom 39 = .ok (.iconst 0, 1) := by decide +kernel
theorem dX4_copyFrom_40 : decode cX4_copyFrom 40 = .ok (.bipush 6, 2) := by decide +kernel
theorem dX4_copyFrom_42 : decode cX4_copyFrom 42 = .ok (.invokestatic 37, 3) := by decide +kernel
theorem dX4_copyFrom_45 : decode cX4_copyFrom 45 = .ok (.aload_n 0, 1) := by decide +kernel
theorem dX4_copyFrom_46 : decode cX4_copyFrom 46 = .ok (.aload_n 1, 1) := by decide +kernel
theorem dX4_copyFrom_47 : decode cX4_copyFrom 47 = .ok (.getfield 33, 3) := by decide +kernel
theorem dX4_copyFrom_50 : decode cX4_copyFrom 50 = .ok (.putfield 33, 3) := by decide +kernel
theorem dX4_copyFrom_53 : decode cX4_copyFrom 53 = .ok (.return_, 1) := by decide +kernel
noncomputable def FX4_copyFrom (a0 : Nat) (p1 : Nat) : PP Unit := bd (cpI (rf p1 1) (rf a0 1) 6) (fun (_ : Unit) => bd (cpI (rf p1 2) (rf a0 2) 6) (fun (_ : Unit) => bd (cpI (rf p1 3) (rf a0 3) 6) (fun (_ : Unit) => bd (gI p1 5) (fun x1 => bd (sI a0 5 x1) (fun (_ : Unit) => pu ())))))
set_option maxHeartbeats 4000000 in
set_option maxRecDepth 100000 in
theorem SX4_copyFrom {l : Launch} {K : KK} {n : Nat} {hn : 270 ≤ n} (a0 : Nat) (p1 : Nat) (h0 : ob a0 4) (h_p1 : ob p1 4) : CT l K n 1 mX4_copyFrom [.ref (K.2.1 + a0), .ref (K.2.1 + p1)] enU (FX4_copyFrom a0 p1) := by
  refine CT.of2 (lv2 := [(0, .ref (K.2.1 + a0)), (1, .ref (K.2.1 + p1))]) (by decide) rfl hn (Nat.le_of_ble_eq_true rfl) rfl (rp_id ?_)
  unfold FX4_copyFrom
  refine rp_aload_n 1 dX4_copyFrom_0 rfl ?_
  refine rp_getR fi_X4_9 h_p1 rfl dX4_copyFrom_1 ?_
  refine rp_iconst (0 : Int32) dX4_copyFrom_4 (by decide) ?_
  refine rp_aload_n 0 dX4_copyFrom_5 rfl ?_
  refine rp_getR fi_X4_9 h0 rfl dX4_copyFrom_6 ?_
  refine rp_iconst (0 : Int32) dX4_copyFrom_9 (by decide) ?_
  refine rp_bipush (6 : Int32) dX4_copyFrom_10 (by decide) ?_
  refine rp_cpI (n0 := 6) (n1 := 6) 6 (tX4_1 h_p1) (tX4_1 h0) (by decide) (by decide) (by decide) (mw (i := 870) (by decide +kernel)) (by omega) (Nat.le_of_ble_eq_true rfl) dX4_copyFrom_12 ?_
  refine rp_aload_n 1 dX4_copyFrom_15 rfl ?_
  refine rp_getR fi_X4_15 h_p1 rfl dX4_copyFrom_16 ?_
  refine rp_iconst (0 : Int32) dX4_copyFrom_19 (by decide) ?_
  refine rp_aload_n 0 dX4_copyFrom_20 rfl ?_
  refine rp_getR fi_X4_15 h0 rfl dX4_copyFrom_21 ?_
  refine rp_iconst (0 : Int32) dX4_copyFrom_24 (by decide) ?_
  refine rp_bipush (6 : Int32) dX4_copyFrom_25 (by decide) ?_
  refine rp_cpI (n0 := 6) (n1 := 6) 6 (tX4_2 h_p1) (tX4_2 h0) (by decide) (by decide) (by decide) (mw (i := 870) (by decide +kernel)) (by omega) (Nat.le_of_ble_eq_true rfl) dX4_copyFrom_27 ?_
  refine rp_aload_n 1 dX4_copyFrom_30 rfl ?_
  refine rp_getR fi_X4_18 h_p1 rfl dX4_copyFrom_31 ?_
  refine rp_iconst (0 : Int32) dX4_copyFrom_34 (by decide) ?_
  refine rp_aload_n 0 dX4_copyFrom_35 rfl ?_
  refine rp_getR fi_X4_18 h0 rfl dX4_copyFrom_36 ?_
  refine rp_iconst (0 : Int32) dX4_copyFrom_39 (by decide) ?_
  refine rp_bipush (6 : Int32) dX4_copyFrom_40 (by decide) ?_
  refine rp_cpI (n0 := 6) (n1 := 6) 6 (tX4_3 h_p1) (tX4_3 h0) (by decide) (by decide) (by decide) (mw (i := 870) (by decide +kernel)) (by omega) (Nat.le_of_ble_eq_true rfl) dX4_copyFrom_42 ?_
  refine rp_aload_n 0 dX4_copyFrom_45 rfl ?_
  refine rp_aload_n 1 dX4_copyFrom_46 rfl ?_
  refine rp_getI fi_X4_33 h_p1 rfl dX4_copyFrom_47 (fun x1 => ?_)
  refine rp_putI fi_X4_33 fp_X4_5 h0 rfl dX4_copyFrom_50 ?_
  exact rp_pu (rp_vret rfl dX4_copyFrom_53)

theorem dX2_keep_0 : decode cX2_keep 0 = .ok (.aload_n 0, 1) := by decide +kernel
theorem dX2_keep_1 : decode cX2_keep 1 = .ok (.getfield 11, 3) := by decide +kernel
theorem dX2_keep_4 : decode cX2_keep 4 = .ok (.aload_n 0, 1) := by decide +kernel
theorem dX2_keep_5 : decode cX2_keep 5 = .ok (.getfield 20, 3) := by decide +kernel
theorem dX2_keep_8 : decode cX2_keep 8 = .ok (.aaload, 1) := by decide +kernel
theorem dX2_keep_9 : decode cX2_keep 9 = .ok (.aload_n 1, 1) := by decide +kernel
theorem dX2_keep_10 : decode cX2_keep 10 = .ok (.invokevirtual 24, 3) := by decide +kernel
theorem dX2_keep_13 : decode cX2_keep 13 = .ok (.aload_n 0, 1) := by decide +kernel
theorem dX2_keep_14 : decode cX2_keep 14 = .ok (.aload_n 0, 1) := by decide +kernel
theorem dX2_keep_15 : decode cX2_keep 15 = .ok (.getfield 20, 3) := by decide +kernel
theorem dX2_keep_18 : decode cX2_keep 18 = .ok (.iconst 1, 1) := by decide +kernel
theorem dX2_keep_19 : decode cX2_keep 19 = .ok (.iadd, 1) := by decide +kernel
theorem dX2_keep_20 : decode cX2_keep 20 = .ok (.bipush 16, 2) := by decide +kernel
theorem dX2_keep_22 : decode cX2_keep 22 = .ok (.irem, 1) := by decide +kernel
theorem dX2_keep_23 : decode cX2_keep 23 = .ok (.putfield 20, 3) := by decide +kernel
theorem dX2_keep_26 : decode cX2_keep 26 = .ok (.aload_n 0, 1) := by decide +kernel
theorem dX2_keep_27 : decode cX2_keep 27 = .ok (.aload_n 0, 1) := by decide +kernel
theorem dX2_keep_28 : decode cX2_keep 28 = .ok (.getfield 28, 3) := by decide +kernel
theorem dX2_keep_31 : decode cX2_keep 31 = .ok (.iconst 1, 1) := by decide +kernel
theorem dX2_keep_32 : decode cX2_keep 32 = .ok (.iadd, 1) := by decide +kernel
theorem dX2_keep_33 : decode cX2_keep 33 = .ok (.bipush 16, 2) := by decide +kernel
theorem dX2_keep_35 : decode cX2_keep 35 = .ok (.invokestatic 31, 3) := by decide +kernel
theorem dX2_keep_38 : decode cX2_keep 38 = .ok (.putfield 28, 3) := by decide +kernel
theorem dX2_keep_41 : decode cX2_keep 41 = .ok (.return_, 1) := by decide +kernel
noncomputable def FX2_keep (a0 : Nat) (p1 : Nat) : PP Unit := bd (gI a0 2) (fun x1 => bd (gd (ib x1 16 = true)) (fun (_ : Unit) => bd (FX4_copyFrom (rf (rf a0 0) x1.toNatClampNeg) p1) (fun (_ : Unit) => bd (gI a0 2) (fun x4 => bd (gd (¬ (16 : Int32) = 0)) (fun (_ : Unit) => bd (sI a0 2 ((x4 + (1 : Int32)) - (x4 + (1 : Int32)) / (16 : Int32) * (16 : Int32))) (fun (_ : Unit) => bd (gI a0 1) (fun x5 => bd (sI a0 1 ((if (16 : Int32) < (x5 + (1 : Int32)) then (16 : Int32) else (x5 + (1 : Int32))))) (fun (_ : Unit) => pu ()))))))))
set_option maxHeartbeats 4000000 in
set_option maxRecDepth 100000 in
theorem SX2_keep {l : Launch} {K : KK} {n : Nat} {hn : 270 ≤ n} (a0 : Nat) (p1 : Nat) (h0 : ob a0 2) (h_p1 : ob p1 4) : CT l K n 2 mX2_keep [.ref (K.2.1 + a0), .ref (K.2.1 + p1)] enU (FX2_keep a0 p1) := by
  refine CT.of2 (lv2 := [(0, .ref (K.2.1 + a0)), (1, .ref (K.2.1 + p1))]) (by decide) rfl hn (Nat.le_of_ble_eq_true rfl) rfl (rp_id ?_)
  unfold FX2_keep
  refine rp_aload_n 0 dX2_keep_0 rfl ?_
  refine rp_getR fi_X2_11 h0 rfl dX2_keep_1 ?_
  refine rp_aload_n 0 dX2_keep_4 rfl ?_
  refine rp_getI fi_X2_20 h0 rfl dX2_keep_5 (fun x1 => ?_)
  refine rp_aald (tX2_0 h0) (Or.inl rfl) dX2_keep_8 (fun hb2 => ?_)
  refine rp_aload_n 1 dX2_keep_9 rfl ?_
  refine rp_callVv [.ref (K.2.1 + p1)] (SX4_copyFrom (hn := hn) (rf (rf a0 0) x1.toNatClampNeg) p1 (arr4 (tX2_0 h0) hb2) h_p1) cvX4_copyFrom (mw (i := 866) (by decide +kernel)) (by omega) (arr4 (tX2_0 h0) hb2) (by decide) rfl rfl rfl (Nat.le_of_ble_eq_true rfl) dX2_keep_10 (fun x3 => ?_)
  refine rp_aload_n 0 dX2_keep_13 rfl ?_
  refine rp_aload_n 0 dX2_keep_14 rfl ?_
  refine rp_getI fi_X2_20 h0 rfl dX2_keep_15 (fun x4 => ?_)
  refine rp_iconst (1 : Int32) dX2_keep_18 (by decide) ?_
  refine rp_iadd dX2_keep_19 ?_
  refine rp_bipush (16 : Int32) dX2_keep_20 (by decide) ?_
  refine rp_irem dX2_keep_22 ?_
  refine rp_putI fi_X2_20 fp_X2_2 h0 rfl dX2_keep_23 ?_
  refine rp_aload_n 0 dX2_keep_26 rfl ?_
  refine rp_aload_n 0 dX2_keep_27 rfl ?_
  refine rp_getI fi_X2_28 h0 rfl dX2_keep_28 (fun x5 => ?_)
  refine rp_iconst (1 : Int32) dX2_keep_31 (by decide) ?_
  refine rp_iadd dX2_keep_32 ?_
  refine rp_bipush (16 : Int32) dX2_keep_33 (by decide) ?_
  refine rp_mmin (mw (i := 871) (by decide +kernel)) (by omega) (Nat.le_of_ble_eq_true rfl) dX2_keep_35 ?_
  refine rp_putI fi_X2_28 fp_X2_1 h0 rfl dX2_keep_38 ?_
  exact rp_pu (rp_vret rfl dX2_keep_41)

theorem dX2_bringBack_0 : decode cX2_bringBack 0 = .ok (.aload_n 0, 1) := by decide +kernel
theorem dX2_bringBack_1 : decode cX2_bringBack 1 = .ok (.getfield 28, 3) := by decide +kernel
theorem dX2_bringBack_4 : decode cX2_bringBack 4 = .ok (.ifCond .ne 5, 3) := by decide +kernel
theorem dX2_bringBack_7 : decode cX2_bringBack 7 = .ok (.iconst 0, 1) := by decide +kernel
theorem dX2_bringBack_8 : decode cX2_bringBack 8 = .ok (.ireturn, 1) := by decide +kernel
theorem dX2_bringBack_9 : decode cX2_bringBack 9 = .ok (.aload_n 0, 1) := by decide +kernel
theorem dX2_bringBack_10 : decode cX2_bringBack 10 = .ok (.aload_n 0, 1) := by decide +kernel
theorem dX2_bringBack_11 : decode cX2_bringBack 11 = .ok (.getfield 20, 3) := by decide +kernel
theorem dX2_bringBack_14 : decode cX2_bringBack 14 = .ok (.bipush 16, 2) := by decide +kernel
theorem dX2_bringBack_16 : decode cX2_bringBack 16 = .ok (.iadd, 1) := by decide +kernel
theorem dX2_bringBack_17 : decode cX2_bringBack 17 = .ok (.iconst 1, 1) := by decide +kernel
theorem dX2_bringBack_18 : decode cX2_bringBack 18 = .ok (.isub, 1) := by decide +kernel
theorem dX2_bringBack_19 : decode cX2_bringBack 19 = .ok (.bipush 16, 2) := by decide +kernel
theorem dX2_bringBack_21 : decode cX2_bringBack 21 = .ok (.irem, 1) := by decide +kernel
theorem dX2_bringBack_22 : decode cX2_bringBack 22 = .ok (.putfield 20, 3) := by decide +kernel
theorem dX2_bringBack_25 : decode cX2_bringBack 25 = .ok (.aload_n 0, 1) := by decide +kernel
theorem dX2_bringBack_26 : decode cX2_bringBack 26 = .ok (.dup, 1) := by decide +kernel
theorem dX2_bringBack_27 : decode cX2_bringBack 27 = .ok (.getfield 28, 3) := by decide +kernel
theorem dX2_bringBack_30 : decode cX2_bringBack 30 = .ok (.iconst 1, 1) := by decide +kernel
theorem dX2_bringBack_31 : decode cX2_bringBack 31 = .ok (.isub, 1) := by decide +kernel
theorem dX2_bringBack_32 : decode cX2_bringBack 32 = .ok (.putfield 28, 3) := by decide +kernel
theorem dX2_bringBack_35 : decode cX2_bringBack 35 = .ok (.aload_n 1, 1) := by decide +kernel
theorem dX2_bringBack_36 : decode cX2_bringBack 36 = .ok (.aload_n 0, 1) := by decide +kernel
theorem dX2_bringBack_37 : decode cX2_bringBack 37 = .ok (.getfield 11, 3) := by decide +kernel
theorem dX2_bringBack_40 : decode cX2_bringBack 40 = .ok (.aload_n 0, 1) := by decide +kernel
theorem dX2_bringBack_41 : decode cX2_bringBack 41 = .ok (.getfield 20, 3) := by decide +kernel
theorem dX2_bringBack_44 : decode cX2_bringBack 44 = .ok (.aaload, 1) := by decide +kernel
theorem dX2_bringBack_45 : decode cX2_bringBack 45 = .ok (.invokevirtual 24, 3) := by decide +kernel
theorem dX2_bringBack_48 : decode cX2_bringBack 48 = .ok (.iconst 1, 1) := by decide +kernel
theorem dX2_bringBack_49 : decode cX2_bringBack 49 = .ok (.ireturn, 1) := by decide +kernel
noncomputable def FX2_bringBack (a0 : Nat) (p1 : Nat) : PP Bool := bd (gI a0 1) (fun x1 => if x1 = 0 then zb (0 : Int32) else bd (gI a0 2) (fun x2 => bd (gd (¬ (16 : Int32) = 0)) (fun (_ : Unit) => bd (sI a0 2 (((x2 + (16 : Int32)) - (1 : Int32)) - ((x2 + (16 : Int32)) - (1 : Int32)) / (16 : Int32) * (16 : Int32))) (fun (_ : Unit) => bd (gI a0 1) (fun x3 => bd (sI a0 1 (x3 - (1 : Int32))) (fun (_ : Unit) => bd (gI a0 2) (fun x4 => bd (gd (ib x4 16 = true)) (fun (_ : Unit) => bd (FX4_copyFrom p1 (rf (rf a0 0) x4.toNatClampNeg)) (fun (_ : Unit) => zb (1 : Int32))))))))))
set_option maxHeartbeats 4000000 in
set_option maxRecDepth 100000 in
theorem SX2_bringBack {l : Launch} {K : KK} {n : Nat} {hn : 270 ≤ n} (a0 : Nat) (p1 : Nat) (h0 : ob a0 2) (h_p1 : ob p1 4) : CT l K n 2 mX2_bringBack [.ref (K.2.1 + a0), .ref (K.2.1 + p1)] enZ (FX2_bringBack a0 p1) := by
  refine CT.of2 (lv2 := [(0, .ref (K.2.1 + a0)), (1, .ref (K.2.1 + p1))]) (by decide) rfl hn (Nat.le_of_ble_eq_true rfl) rfl (rp_id ?_)
  unfold FX2_bringBack
  refine rp_aload_n 0 dX2_bringBack_0 rfl ?_
  refine rp_getI fi_X2_28 h0 rfl dX2_bringBack_1 (fun x1 => ?_)
  refine rp_if_ne 9 dX2_bringBack_4 (by decide) ?_ ?_
  · refine rp_aload_n 0 dX2_bringBack_9 rfl ?_
    refine rp_aload_n 0 dX2_bringBack_10 rfl ?_
    refine rp_getI fi_X2_20 h0 rfl dX2_bringBack_11 (fun x2 => ?_)
    refine rp_bipush (16 : Int32) dX2_bringBack_14 (by decide) ?_
    refine rp_iadd dX2_bringBack_16 ?_
    refine rp_iconst (1 : Int32) dX2_bringBack_17 (by decide) ?_
    refine rp_isub dX2_bringBack_18 ?_
    refine rp_bipush (16 : Int32) dX2_bringBack_19 (by decide) ?_
    refine rp_irem dX2_bringBack_21 ?_
    refine rp_putI fi_X2_20 fp_X2_2 h0 rfl dX2_bringBack_22 ?_
    refine rp_aload_n 0 dX2_bringBack_25 rfl ?_
    refine rp_dup dX2_bringBack_26 rfl ?_
    refine rp_getI fi_X2_28 h0 rfl dX2_bringBack_27 (fun x3 => ?_)
    refine rp_iconst (1 : Int32) dX2_bringBack_30 (by decide) ?_
    refine rp_isub dX2_bringBack_31 ?_
    refine rp_putI fi_X2_28 fp_X2_1 h0 rfl dX2_bringBack_32 ?_
    refine rp_aload_n 1 dX2_bringBack_35 rfl ?_
    refine rp_aload_n 0 dX2_bringBack_36 rfl ?_
    refine rp_getR fi_X2_11 h0 rfl dX2_bringBack_37 ?_
    refine rp_aload_n 0 dX2_bringBack_40 rfl ?_
    refine rp_getI fi_X2_20 h0 rfl dX2_bringBack_41 (fun x4 => ?_)
    refine rp_aald (tX2_0 h0) (Or.inl rfl) dX2_bringBack_44 (fun hb5 => ?_)
    refine rp_callVv [.ref (K.2.1 + (rf (rf a0 0) x4.toNatClampNeg))] (SX4_copyFrom (hn := hn) p1 (rf (rf a0 0) x4.toNatClampNeg) h_p1 (arr4 (tX2_0 h0) hb5)) cvX4_copyFrom (mw (i := 866) (by decide +kernel)) (by omega) h_p1 (by decide) rfl rfl rfl (Nat.le_of_ble_eq_true rfl) dX2_bringBack_45 (fun x6 => ?_)
    refine rp_iconst (1 : Int32) dX2_bringBack_48 (by decide) ?_
    exact rp_zretb rfl dX2_bringBack_49
  · refine rp_iconst (0 : Int32) dX2_bringBack_7 (by decide) ?_
    exact rp_zretb rfl dX2_bringBack_8

theorem dX4_putUp_0 : decode cX4_putUp 0 = .ok (.aload_n 0, 1) := by decide +kernel
theorem dX4_putUp_1 : decode cX4_putUp 1 = .ok (.getfield 15, 3) := by decide +kernel
theorem dX4_putUp_4 : decode cX4_putUp 4 = .ok (.iload_n 1, 1) := by decide +kernel
theorem dX4_putUp_5 : decode cX4_putUp 5 = .ok (.iload_n 2, 1) := by decide +kernel
theorem dX4_putUp_6 : decode cX4_putUp 6 = .ok (.iastore, 1) := by decide +kernel
theorem dX4_putUp_7 : decode cX4_putUp 7 = .ok (.aload_n 0, 1) := by decide +kernel
theorem dX4_putUp_8 : decode cX4_putUp 8 = .ok (.getfield 18, 3) := by decide +kernel
theorem dX4_putUp_11 : decode cX4_putUp 11 = .ok (.iload_n 1, 1) := by decide +kernel
theorem dX4_putUp_12 : decode cX4_putUp 12 = .ok (.iload_n 3, 1) := by decide +kernel
theorem dX4_putUp_13 : decode cX4_putUp 13 = .ok (.iastore, 1) := by decide +kernel
theorem dX4_putUp_14 : decode cX4_putUp 14 = .ok (.return_, 1) := by decide +kernel
noncomputable def FX4_putUp (a0 : Nat) (p1 : Int32) (p2 : Int32) (p3 : Int32) : PP Unit := bd (uI (rf a0 2) 6 p1 p2) (fun (_ : Unit) => bd (uI (rf a0 3) 6 p1 p3) (fun (_ : Unit) => pu ()))
set_option maxHeartbeats 4000000 in
set_option maxRecDepth 100000 in
theorem SX4_putUp {l : Launch} {K : KK} {n : Nat} {hn : 270 ≤ n} (a0 : Nat) (p1 : Int32) (p2 : Int32) (p3 : Int32) (h0 : ob a0 4) : CT l K n 0 mX4_putUp [.ref (K.2.1 + a0), .int p1, .int p2, .int p3] enU (FX4_putUp a0 p1 p2 p3) := by
  refine CT.of2 (lv2 := [(0, .ref (K.2.1 + a0)), (1, .int p1), (2, .int p2), (3, .int p3)]) (by decide) rfl hn (Nat.le_of_ble_eq_true rfl) rfl (rp_id ?_)
  unfold FX4_putUp
  refine rp_aload_n 0 dX4_putUp_0 rfl ?_
  refine rp_getR fi_X4_15 h0 rfl dX4_putUp_1 ?_
  refine rp_iload_n 1 dX4_putUp_4 rfl ?_
  refine rp_iload_n 2 dX4_putUp_5 rfl ?_
  refine rp_iast (tX4_2 h0) dX4_putUp_6 ?_
  refine rp_aload_n 0 dX4_putUp_7 rfl ?_
  refine rp_getR fi_X4_18 h0 rfl dX4_putUp_8 ?_
  refine rp_iload_n 1 dX4_putUp_11 rfl ?_
  refine rp_iload_n 3 dX4_putUp_12 rfl ?_
  refine rp_iast (tX4_3 h0) dX4_putUp_13 ?_
  exact rp_pu (rp_vret rfl dX4_putUp_14)

theorem dX4_putDown_0 : decode cX4_putDown 0 = .ok (.aload_n 0, 1) := by decide +kernel
theorem dX4_putDown_1 : decode cX4_putDown 1 = .ok (.getfield 15, 3) := by decide +kernel
theorem dX4_putDown_4 : decode cX4_putDown 4 = .ok (.iload_n 1, 1) := by decide +kernel
theorem dX4_putDown_5 : decode cX4_putDown 5 = .ok (.iconst (-1), 1) := by decide +kernel
theorem dX4_putDown_6 : decode cX4_putDown 6 = .ok (.iastore, 1) := by decide +kernel
theorem dX4_putDown_7 : decode cX4_putDown 7 = .ok (.aload_n 0, 1) := by decide +kernel
theorem dX4_putDown_8 : decode cX4_putDown 8 = .ok (.getfield 18, 3) := by decide +kernel
theorem dX4_putDown_11 : decode cX4_putDown 11 = .ok (.iload_n 1, 1) := by decide +kernel
theorem dX4_putDown_12 : decode cX4_putDown 12 = .ok (.iconst 0, 1) := by decide +kernel
theorem dX4_putDown_13 : decode cX4_putDown 13 = .ok (.iastore, 1) := by decide +kernel
theorem dX4_putDown_14 : decode cX4_putDown 14 = .ok (.return_, 1) := by decide +kernel
noncomputable def FX4_putDown (a0 : Nat) (p1 : Int32) : PP Unit := bd (uI (rf a0 2) 6 p1 (-1 : Int32)) (fun (_ : Unit) => bd (uI (rf a0 3) 6 p1 (0 : Int32)) (fun (_ : Unit) => pu ()))
set_option maxHeartbeats 4000000 in
set_option maxRecDepth 100000 in
theorem SX4_putDown {l : Launch} {K : KK} {n : Nat} {hn : 270 ≤ n} (a0 : Nat) (p1 : Int32) (h0 : ob a0 4) : CT l K n 0 mX4_putDown [.ref (K.2.1 + a0), .int p1] enU (FX4_putDown a0 p1) := by
  refine CT.of2 (lv2 := [(0, .ref (K.2.1 + a0)), (1, .int p1)]) (by decide) rfl hn (Nat.le_of_ble_eq_true rfl) rfl (rp_id ?_)
  unfold FX4_putDown
  refine rp_aload_n 0 dX4_putDown_0 rfl ?_
  refine rp_getR fi_X4_15 h0 rfl dX4_putDown_1 ?_
  refine rp_iload_n 1 dX4_putDown_4 rfl ?_
  refine rp_iconst (-1 : Int32) dX4_putDown_5 (by decide) ?_
  refine rp_iast (tX4_2 h0) dX4_putDown_6 ?_
  refine rp_aload_n 0 dX4_putDown_7 rfl ?_
  refine rp_getR fi_X4_18 h0 rfl dX4_putDown_8 ?_
  refine rp_iload_n 1 dX4_putDown_11 rfl ?_
  refine rp_iconst (0 : Int32) dX4_putDown_12 (by decide) ?_
  refine rp_iast (tX4_3 h0) dX4_putDown_13 ?_
  exact rp_pu (rp_vret rfl dX4_putDown_14)

theorem dX4_soak_0 : decode cX4_soak 0 = .ok (.aload_n 0, 1) := by decide +kernel
theorem dX4_soak_1 : decode cX4_soak 1 = .ok (.getfield 9, 3) := by decide +kernel
theorem dX4_soak_4 : decode cX4_soak 4 = .ok (.iload_n 1, 1) := by decide +kernel
theorem dX4_soak_5 : decode cX4_soak 5 = .ok (.aload_n 0, 1) := by decide +kernel
theorem dX4_soak_6 : decode cX4_soak 6 = .ok (.getfield 24, 3) := by decide +kernel
theorem dX4_soak_9 : decode cX4_soak 9 = .ok (.getfield 28, 3) := by decide +kernel
theorem dX4_soak_12 : decode cX4_soak 12 = .ok (.iload_n 1, 1) := by decide +kernel
theorem dX4_soak_13 : decode cX4_soak 13 = .ok (.iaload, 1) := by decide +kernel
theorem dX4_soak_14 : decode cX4_soak 14 = .ok (.iastore, 1) := by decide +kernel
theorem dX4_soak_15 : decode cX4_soak 15 = .ok (.return_, 1) := by decide +kernel
noncomputable def FX4_soak (a0 : Nat) (p1 : Int32) : PP Unit := bd (aI (rf (rf a0 0) 7) 6 p1) (fun x1 => bd (uI (rf a0 1) 6 p1 x1) (fun (_ : Unit) => pu ()))
set_option maxHeartbeats 4000000 in
set_option maxRecDepth 100000 in
theorem SX4_soak {l : Launch} {K : KK} {n : Nat} {hn : 270 ≤ n} (a0 : Nat) (p1 : Int32) (h0 : ob a0 4) : CT l K n 0 mX4_soak [.ref (K.2.1 + a0), .int p1] enU (FX4_soak a0 p1) := by
  refine CT.of2 (lv2 := [(0, .ref (K.2.1 + a0)), (1, .int p1)]) (by decide) rfl hn (Nat.le_of_ble_eq_true rfl) rfl (rp_id ?_)
  unfold FX4_soak
  refine rp_aload_n 0 dX4_soak_0 rfl ?_
  refine rp_getR fi_X4_9 h0 rfl dX4_soak_1 ?_
  refine rp_iload_n 1 dX4_soak_4 rfl ?_
  refine rp_aload_n 0 dX4_soak_5 rfl ?_
  refine rp_getR fi_X4_24 h0 rfl dX4_soak_6 ?_
  refine rp_getR fi_X4_28 (tX4_0 h0) rfl dX4_soak_9 ?_
  refine rp_iload_n 1 dX4_soak_12 rfl ?_
  refine rp_iald (tX7_7 (tX4_0 h0)) dX4_soak_13 (fun x1 => ?_)
  refine rp_iast (tX4_1 h0) dX4_soak_14 ?_
  exact rp_pu (rp_vret rfl dX4_soak_15)

theorem dX4_wetShirts_0 : decode cX4_wetShirts 0 = .ok (.iconst 0, 1) := by decide +kernel
theorem dX4_wetShirts_1 : decode cX4_wetShirts 1 = .ok (.istore_n 1, 1) := by decide +kernel
theorem dX4_wetShirts_2 : decode cX4_wetShirts 2 = .ok (.iconst 0, 1) := by decide +kernel
theorem dX4_wetShirts_3 : decode cX4_wetShirts 3 = .ok (.istore_n 2, 1) := by decide +kernel
theorem dX4_wetShirts_4 : decode cX4_wetShirts 4 = .ok (.iload_n 2, 1) := by decide +kernel
theorem dX4_wetShirts_5 : decode cX4_wetShirts 5 = .ok (.aload_n 0, 1) := by decide +kernel
theorem dX4_wetShirts_6 : decode cX4_wetShirts 6 = .ok (.getfield 24, 3) := by decide +kernel
theorem dX4_wetShirts_9 : decode cX4_wetShirts 9 = .ok (.getfield 61, 3) := by decide +kernel
theorem dX4_wetShirts_12 : decode cX4_wetShirts 12 = .ok (.if_icmp .ge 44, 3) := by decide +kernel
theorem dX4_wetShirts_15 : decode cX4_wetShirts 15 = .ok (.aload_n 0, 1) := by decide +kernel
theorem dX4_wetShirts_16 : decode cX4_wetShirts 16 = .ok (.getfield 15, 3) := by decide +kernel
theorem dX4_wetShirts_19 : decode cX4_wetShirts 19 = .ok (.iload_n 2, 1) := by decide +kernel
theorem dX4_wetShirts_20 : decode cX4_wetShirts 20 = .ok (.iaload, 1) := by decide +kernel
theorem dX4_wetShirts_21 : decode cX4_wetShirts 21 = .ok (.iconst (-1), 1) := by decide +kernel
theorem dX4_wetShirts_22 : decode cX4_wetShirts 22 = .ok (.if_icmp .eq 28, 3) := by decide +kernel
theorem dX4_wetShirts_25 : decode cX4_wetShirts 25 = .ok (.aload_n 0, 1) := by decide +kernel
theorem dX4_wetShirts_26 : decode cX4_wetShirts 26 = .ok (.getfield 9, 3) := by decide +kernel
theorem dX4_wetShirts_29 : decode cX4_wetShirts 29 = .ok (.iload_n 2, 1) := by decide +kernel
theorem dX4_wetShirts_30 : decode cX4_wetShirts 30 = .ok (.iaload, 1) := by decide +kernel
theorem dX4_wetShirts_31 : decode cX4_wetShirts 31 = .ok (.ifCond .le 19, 3) := by decide +kernel
theorem dX4_wetShirts_34 : decode cX4_wetShirts 34 = .ok (.aload_n 0, 1) := by decide +kernel
theorem dX4_wetShirts_35 : decode cX4_wetShirts 35 = .ok (.getfield 24, 3) := by decide +kernel
theorem dX4_wetShirts_38 : decode cX4_wetShirts 38 = .ok (.getfield 80, 3) := by decide +kernel
theorem dX4_wetShirts_41 : decode cX4_wetShirts 41 = .ok (.iload_n 2, 1) := by decide +kernel
theorem dX4_wetShirts_42 : decode cX4_wetShirts 42 = .ok (.iaload, 1) := by decide +kernel
theorem dX4_wetShirts_43 : decode cX4_wetShirts 43 = .ok (.iconst 1, 1) := by decide +kernel
theorem dX4_wetShirts_44 : decode cX4_wetShirts 44 = .ok (.if_icmp .ne 6, 3) := by decide +kernel
theorem dX4_wetShirts_47 : decode cX4_wetShirts 47 = .ok (.iinc 1 1, 3) := by decide +kernel
theorem dX4_wetShirts_50 : decode cX4_wetShirts 50 = .ok (.iinc 2 1, 3) := by decide +kernel
theorem dX4_wetShirts_53 : decode cX4_wetShirts 53 = .ok (.goto (-49), 3) := by decide +kernel
theorem dX4_wetShirts_56 : decode cX4_wetShirts 56 = .ok (.iload_n 1, 1) := by decide +kernel
theorem dX4_wetShirts_57 : decode cX4_wetShirts 57 = .ok (.ireturn, 1) := by decide +kernel
noncomputable def FX4_wetShirts (a0 : Nat) : PP Int32 := bd (it (fun (s1 : Int32 × Int32) => (bd (gI (rf a0 0) 11) (fun x2 => if x2 ≤ s1.2 then pu (Sum.inr s1.1) else bd (aI (rf a0 2) 6 s1.2) (fun x3 => bd (if x3 = (-1 : Int32) then pu s1.1 else bd (aI (rf a0 1) 6 s1.2) (fun x4 => if x4 ≤ 0 then pu s1.1 else bd (aI (rf (rf a0 0) 6) 6 s1.2) (fun x5 => if x5 = (1 : Int32) then lt (s1.1 + (1 : Int32)) (fun y6 => pu y6) else pu s1.1)) : PP (Int32)) (fun (v7 : Int32) => lt (s1.2 + (1 : Int32)) (fun y8 => pu (Sum.inl (v7, y8)))))) : PP ((Int32 × Int32) ⊕ (Int32)))) FU ((0 : Int32), (0 : Int32))) (fun (v9 : Int32) => pu v9)
set_option maxHeartbeats 4000000 in
set_option maxRecDepth 100000 in
theorem SX4_wetShirts {l : Launch} {K : KK} {n : Nat} {hn : 270 ≤ n} (a0 : Nat) (h0 : ob a0 4) : CT l K n 0 mX4_wetShirts [.ref (K.2.1 + a0)] enI (FX4_wetShirts a0) := by
  refine CT.of2 (lv2 := [(0, .ref (K.2.1 + a0))]) (by decide) rfl hn (Nat.le_of_ble_eq_true rfl) rfl (rp_id ?_)
  unfold FX4_wetShirts
  refine rp_iconst (0 : Int32) dX4_wetShirts_0 (by decide) ?_
  refine rp_istore_n [(1, .int (0 : Int32)), (0, .ref (K.2.1 + a0))] dX4_wetShirts_1 (by decide) rfl ?_
  refine rp_iconst (0 : Int32) dX4_wetShirts_2 (by decide) ?_
  refine rp_istore_n [(2, .int (0 : Int32)), (1, .int (0 : Int32)), (0, .ref (K.2.1 + a0))] dX4_wetShirts_3 (by decide) rfl ?_
  refine rp_as ?_
  refine rp_join 56 (fun v9 => [(1, .int v9)]) (fun _ => []) (fun v9 => ?_) (fun hX4_0 => ?_)
  · refine rp_iload_n 0 dX4_wetShirts_56 rfl ?_
    exact rp_pu (rp_iret rfl dX4_wetShirts_57)
  refine rp_sub [2, 1, 0] rfl (rp_it (fun (s1 : Int32 × Int32) => [(0, .ref (K.2.1 + a0)), (1, .int s1.1), (2, .int s1.2)]) (fun N4 ih4 s1 => ?_) FU ((0 : Int32), (0 : Int32)))
  refine rp_iload_n 2 dX4_wetShirts_4 rfl ?_
  refine rp_aload_n 0 dX4_wetShirts_5 rfl ?_
  refine rp_getR fi_X4_24 h0 rfl dX4_wetShirts_6 ?_
  refine rp_getI fi_X4_61 (tX4_0 h0) rfl dX4_wetShirts_9 (fun x2 => ?_)
  refine rp_icmp_ge 56 dX4_wetShirts_12 (by decide) ?_ ?_
  · exact rp_sub [1] rfl (rp_puR (hX4_0 s1.1))
  · refine rp_aload_n 0 dX4_wetShirts_15 rfl ?_
    refine rp_getR fi_X4_15 h0 rfl dX4_wetShirts_16 ?_
    refine rp_iload_n 2 dX4_wetShirts_19 rfl ?_
    refine rp_iald (tX4_2 h0) dX4_wetShirts_20 (fun x3 => ?_)
    refine rp_iconst (-1 : Int32) dX4_wetShirts_21 (by decide) ?_
    refine rp_as ?_
    refine rp_join 50 (fun (v7 : Int32) => [(0, .ref (K.2.1 + a0)), (1, .int v7), (2, .int s1.2)]) (fun v7 => []) (fun v7 => ?_) (fun hJ50 => ?_)
    · refine rp_iinc (fun y8 => [(2, .int y8), (0, .ref (K.2.1 + a0)), (1, .int v7)]) 2 dX4_wetShirts_50 rfl (by rfl) (by decide) (fun y8 => rfl) (fun y8 => ?_)
      refine rp_goto 4 dX4_wetShirts_53 (by decide) ?_
      exact rp_sub [1, 2, 0] rfl (ih4 (v7, y8))
    refine rp_icmp_eq 50 dX4_wetShirts_22 (by decide) ?_ ?_
    · exact rp_sub [0, 1, 2] rfl (rp_pu (hJ50 s1.1))
    · refine rp_aload_n 0 dX4_wetShirts_25 rfl ?_
      refine rp_getR fi_X4_9 h0 rfl dX4_wetShirts_26 ?_
      refine rp_iload_n 2 dX4_wetShirts_29 rfl ?_
      refine rp_iald (tX4_1 h0) dX4_wetShirts_30 (fun x4 => ?_)
      refine rp_if_le 50 dX4_wetShirts_31 (by decide) ?_ ?_
      · exact rp_sub [0, 1, 2] rfl (rp_pu (hJ50 s1.1))
      · refine rp_aload_n 0 dX4_wetShirts_34 rfl ?_
        refine rp_getR fi_X4_24 h0 rfl dX4_wetShirts_35 ?_
        refine rp_getR fi_X4_80 (tX4_0 h0) rfl dX4_wetShirts_38 ?_
        refine rp_iload_n 2 dX4_wetShirts_41 rfl ?_
        refine rp_iald (tX7_6 (tX4_0 h0)) dX4_wetShirts_42 (fun x5 => ?_)
        refine rp_iconst (1 : Int32) dX4_wetShirts_43 (by decide) ?_
        refine rp_icmp_ne 50 dX4_wetShirts_44 (by decide) ?_ ?_
        · exact rp_sub [0, 1, 2] rfl (rp_pu (hJ50 s1.1))
        · refine rp_iinc (fun y6 => [(1, .int y6), (0, .ref (K.2.1 + a0)), (2, .int s1.2)]) 1 dX4_wetShirts_47 rfl (by rfl) (by decide) (fun y6 => rfl) (fun y6 => ?_)
          exact rp_sub [1, 0, 2] rfl (rp_pu (hJ50 y6))

theorem dX4_passHour_0 : decode cX4_passHour 0 = .ok (.iconst 0, 1) := by decide +kernel
theorem dX4_passHour_1 : decode cX4_passHour 1 = .ok (.istore_n 2, 1) := by decide +kernel
theorem dX4_passHour_2 : decode cX4_passHour 2 = .ok (.iload_n 1, 1) := by decide +kernel
theorem dX4_passHour_3 : decode cX4_passHour 3 = .ok (.ifCond .eq 10, 3) := by decide +kernel
theorem dX4_passHour_6 : decode cX4_passHour 6 = .ok (.aload_n 0, 1) := by decide +kernel
theorem dX4_passHour_7 : decode cX4_passHour 7 = .ok (.invokevirtual 57, 3) := by decide +kernel
theorem dX4_passHour_10 : decode cX4_passHour 10 = .ok (.goto 4, 3) := by decide +kernel
theorem dX4_passHour_13 : decode cX4_passHour 13 = .ok (.iconst 0, 1) := by decide +kernel
theorem dX4_passHour_14 : decode cX4_passHour 14 = .ok (.istore_n 3, 1) := by decide +kernel
theorem dX4_passHour_15 : decode cX4_passHour 15 = .ok (.iconst 0, 1) := by decide +kernel
theorem dX4_passHour_16 : decode cX4_passHour 16 = .ok (.istore 4, 2) := by decide +kernel
theorem dX4_passHour_18 : decode cX4_passHour 18 = .ok (.iload_n 1, 1) := by decide +kernel
theorem dX4_passHour_19 : decode cX4_passHour 19 = .ok (.ifCond .eq 117, 3) := by decide +kernel
theorem dX4_passHour_22 : decode cX4_passHour 22 = .ok (.iload 4, 2) := by decide +kernel
theorem dX4_passHour_24 : decode cX4_passHour 24 = .ok (.aload_n 0, 1) := by decide +kernel
theorem dX4_passHour_25 : decode cX4_passHour 25 = .ok (.getfield 24, 3) := by decide +kernel
theorem dX4_passHour_28 : decode cX4_passHour 28 = .ok (.getfield 61, 3) := by decide +kernel
theorem dX4_passHour_31 : decode cX4_passHour 31 = .ok (.if_icmp .ge 105, 3) := by decide +kernel
theorem dX4_passHour_34 : decode cX4_passHour 34 = .ok (.aload_n 0, 1) := by decide +kernel
theorem dX4_passHour_35 : decode cX4_passHour 35 = .ok (.getfield 15, 3) := by decide +kernel
theorem dX4_passHour_38 : decode cX4_passHour 38 = .ok (.iload 4, 2) := by decide +kernel
theorem dX4_passHour_40 : decode cX4_passHour 40 = .ok (.iaload, 1) := by decide +kernel
theorem dX4_passHour_41 : decode cX4_passHour 41 = .ok (.iconst (-1), 1) := by decide +kernel
theorem dX4_passHour_42 : decode cX4_passHour 42 = .ok (.if_icmp .eq 88, 3) := by decide +kernel
theorem dX4_passHour_45 : decode cX4_passHour 45 = .ok (.aload_n 0, 1) := by decide +kernel
theorem dX4_passHour_46 : decode cX4_passHour 46 = .ok (.getfield 9, 3) := by decide +kernel
theorem dX4_passHour_49 : decode cX4_passHour 49 = .ok (.iload 4, 2) := by decide +kernel
theorem dX4_passHour_51 : decode cX4_passHour 51 = .ok (.iaload, 1) := by decide +kernel
theorem dX4_passHour_52 : decode cX4_passHour 52 = .ok (.ifCond .le 78, 3) := by decide +kernel
theorem dX4_passHour_55 : decode cX4_passHour 55 = .ok (.aload_n 0, 1) := by decide +kernel
theorem dX4_passHour_56 : decode cX4_passHour 56 = .ok (.getfield 24, 3) := by decide +kernel
theorem dX4_passHour_59 : decode cX4_passHour 59 = .ok (.getfield 64, 3) := by decide +kernel
theorem dX4_passHour_62 : decode cX4_passHour 62 = .ok (.aload_n 0, 1) := by decide +kernel
theorem dX4_passHour_63 : decode cX4_passHour 63 = .ok (.getfield 9, 3) := by decide +kernel
theorem dX4_passHour_66 : decode cX4_passHour 66 = .ok (.iload 4, 2) := by decide +kernel
theorem dX4_passHour_68 : decode cX4_passHour 68 = .ok (.iaload, 1) := by decide +kernel
theorem dX4_passHour_69 : decode cX4_passHour 69 = .ok (.iconst 3, 1) := by decide +kernel
theorem dX4_passHour_70 : decode cX4_passHour 70 = .ok (.aload_n 0, 1) := by decide +kernel
theorem dX4_passHour_71 : decode cX4_passHour 71 = .ok (.getfield 18, 3) := by decide +kernel
theorem dX4_passHour_74 : decode cX4_passHour 74 = .ok (.iload 4, 2) := by decide +kernel
theorem dX4_passHour_76 : decode cX4_passHour 76 = .ok (.iaload, 1) := by decide +kernel
theorem dX4_passHour_77 : decode cX4_passHour 77 = .ok (.isub, 1) := by decide +kernel
theorem dX4_passHour_78 : decode cX4_passHour 78 = .ok (.iload_n 3, 1) := by decide +kernel
theorem dX4_passHour_79 : decode cX4_passHour 79 = .ok (.aload_n 0, 1) := by decide +kernel
theorem dX4_passHour_80 : decode cX4_passHour 80 = .ok (.getfield 33, 3) := by decide +kernel
theorem dX4_passHour_83 : decode cX4_passHour 83 = .ok (.invokevirtual 68, 3) := by decide +kernel
theorem dX4_passHour_86 : decode cX4_passHour 86 = .ok (.istore 5, 2) := by decide +kernel
theorem dX4_passHour_88 : decode cX4_passHour 88 = .ok (.aload_n 0, 1) := by decide +kernel
theorem dX4_passHour_89 : decode cX4_passHour 89 = .ok (.getfield 9, 3) := by decide +kernel
theorem dX4_passHour_92 : decode cX4_passHour 92 = .ok (.iload 4, 2) := by decide +kernel
theorem dX4_passHour_94 : decode cX4_passHour 94 = .ok (.iconst 0, 1) := by decide +kernel
theorem dX4_passHour_95 : decode cX4_passHour 95 = .ok (.aload_n 0, 1) := by decide +kernel
theorem dX4_passHour_96 : decode cX4_passHour 96 = .ok (.getfield 9, 3) := by decide +kernel
theorem dX4_passHour_99 : decode cX4_passHour 99 = .ok (.iload 4, 2) := by decide +kernel
theorem dX4_passHour_101 : decode cX4_passHour 101 = .ok (.iaload, 1) := by decide +kernel
theorem dX4_passHour_102 : decode cX4_passHour 102 = .ok (.iload 5, 2) := by decide +kernel
theorem dX4_passHour_104 : decode cX4_passHour 104 = .ok (.isub, 1) := by decide +kernel
theorem dX4_passHour_105 : decode cX4_passHour 105 = .ok (.invokestatic 74, 3) := by decide +kernel
theorem dX4_passHour_108 : decode cX4_passHour 108 = .ok (.iastore, 1) := by decide +kernel
theorem dX4_passHour_109 : decode cX4_passHour 109 = .ok (.iload_n 2, 1) := by decide +kernel
theorem dX4_passHour_110 : decode cX4_passHour 110 = .ok (.aload_n 0, 1) := by decide +kernel
theorem dX4_passHour_111 : decode cX4_passHour 111 = .ok (.getfield 9, 3) := by decide +kernel
theorem dX4_passHour_114 : decode cX4_passHour 114 = .ok (.iload 4, 2) := by decide +kernel
theorem dX4_passHour_116 : decode cX4_passHour 116 = .ok (.iaload, 1) := by decide +kernel
theorem dX4_passHour_117 : decode cX4_passHour 117 = .ok (.ifCond .ne 10, 3) := by decide +kernel
theorem dX4_passHour_120 : decode cX4_passHour 120 = .ok (.iconst 1, 1) := by decide +kernel
theorem dX4_passHour_121 : decode cX4_passHour 121 = .ok (.iload 4, 2) := by decide +kernel
theorem dX4_passHour_123 : decode cX4_passHour 123 = .ok (.ishl, 1) := by decide +kernel
theorem dX4_passHour_124 : decode cX4_passHour 124 = .ok (.goto 4, 3) := by decide +kernel
theorem dX4_passHour_127 : decode cX4_passHour 127 = .ok (.iconst 0, 1) := by decide +kernel
theorem dX4_passHour_128 : decode cX4_passHour 128 = .ok (.ior, 1) := by decide +kernel
theorem dX4_passHour_129 : decode cX4_passHour 129 = .ok (.istore_n 2, 1) := by decide +kernel
theorem dX4_passHour_130 : decode cX4_passHour 130 = .ok (.iinc 4 1, 3) := by decide +kernel
theorem dX4_passHour_133 : decode cX4_passHour 133 = .ok (.goto (-115), 3) := by decide +kernel
theorem dX4_passHour_136 : decode cX4_passHour 136 = .ok (.aload_n 0, 1) := by decide +kernel
theorem dX4_passHour_137 : decode cX4_passHour 137 = .ok (.dup, 1) := by decide +kernel
theorem dX4_passHour_138 : decode cX4_passHour 138 = .ok (.getfield 33, 3) := by decide +kernel
theorem dX4_passHour_141 : decode cX4_passHour 141 = .ok (.iconst 1, 1) := by decide +kernel
theorem dX4_passHour_142 : decode cX4_passHour 142 = .ok (.iadd, 1) := by decide +kernel
theorem dX4_passHour_143 : decode cX4_passHour 143 = .ok (.putfield 33, 3) := by decide +kernel
theorem dX4_passHour_146 : decode cX4_passHour 146 = .ok (.iload_n 2, 1) := by decide +kernel
theorem dX4_passHour_147 : decode cX4_passHour 147 = .ok (.ireturn, 1) := by decide +kernel
noncomputable def FX4_passHour (a0 : Nat) (p1 : Int32) : PP Int32 := bd (if p1 = 0 then pu (0 : Int32) else bd (FX4_wetShirts a0) (fun x1 => pu x1) : PP (Int32)) (fun (v2 : Int32) => bd (it (fun (s3 : Int32 × Int32) => (if p1 = 0 then pu (Sum.inr s3.1) else bd (gI (rf a0 0) 11) (fun x4 => if x4 ≤ s3.2 then pu (Sum.inr s3.1) else bd (aI (rf a0 2) 6 s3.2) (fun x5 => bd (if x5 = (-1 : Int32) then pu s3.1 else bd (aI (rf a0 1) 6 s3.2) (fun x6 => if x6 ≤ 0 then pu s3.1 else bd (aI (rf a0 1) 6 s3.2) (fun x7 => bd (aI (rf a0 3) 6 s3.2) (fun x8 => bd (gI a0 5) (fun x9 => bd (FX0_drop (rf (rf a0 0) 8) x7 ((3 : Int32) - x8) v2 x9) (fun x10 => bd (aI (rf a0 1) 6 s3.2) (fun x11 => bd (uI (rf a0 1) 6 s3.2 ((if (0 : Int32) < (x11 - x10) then (x11 - x10) else (0 : Int32)))) (fun (_ : Unit) => bd (aI (rf a0 1) 6 s3.2) (fun x12 => bd (if x12 = 0 then pu ((1 : Int32) <<< (s3.2 &&& 31)) else pu (0 : Int32) : PP (Int32)) (fun (v13 : Int32) => lt (s3.1 ||| v13) (fun y14 => pu y14)))))))))) : PP (Int32)) (fun (v15 : Int32) => lt (s3.2 + (1 : Int32)) (fun y16 => pu (Sum.inl (v15, y16)))))) : PP ((Int32 × Int32) ⊕ (Int32)))) FU ((0 : Int32), (0 : Int32))) (fun (v17 : Int32) => bd (gI a0 5) (fun x18 => bd (sI a0 5 (x18 + (1 : Int32))) (fun (_ : Unit) => pu v17))))
set_option maxHeartbeats 4000000 in
set_option maxRecDepth 100000 in
theorem SX4_passHour {l : Launch} {K : KK} {n : Nat} {hn : 270 ≤ n} (a0 : Nat) (p1 : Int32) (h0 : ob a0 4) : CT l K n 2 mX4_passHour [.ref (K.2.1 + a0), .int p1] enI (FX4_passHour a0 p1) := by
  refine CT.of2 (lv2 := [(0, .ref (K.2.1 + a0)), (1, .int p1)]) (by decide) rfl hn (Nat.le_of_ble_eq_true rfl) rfl (rp_id ?_)
  unfold FX4_passHour
  refine rp_iconst (0 : Int32) dX4_passHour_0 (by decide) ?_
  refine rp_istore_n [(2, .int (0 : Int32)), (0, .ref (K.2.1 + a0)), (1, .int p1)] dX4_passHour_1 (by decide) rfl ?_
  refine rp_iload_n 2 dX4_passHour_2 rfl ?_
  refine rp_as ?_
  refine rp_join 14 (fun (v2 : Int32) => [(0, .ref (K.2.1 + a0)), (1, .int p1), (2, .int (0 : Int32))]) (fun v2 => [.int v2]) (fun v2 => ?_) (fun hJ14 => ?_)
  · refine rp_istore_n [(3, .int v2), (0, .ref (K.2.1 + a0)), (1, .int p1), (2, .int (0 : Int32))] dX4_passHour_14 (by decide) rfl ?_
    refine rp_iconst (0 : Int32) dX4_passHour_15 (by decide) ?_
    refine rp_istore [(4, .int (0 : Int32)), (3, .int v2), (0, .ref (K.2.1 + a0)), (1, .int p1), (2, .int (0 : Int32))] dX4_passHour_16 (by decide) rfl ?_
    refine rp_as ?_
    refine rp_join 136 (fun v17 => [(0, .ref (K.2.1 + a0)), (2, .int v17)]) (fun _ => []) (fun v17 => ?_) (fun hX18_0 => ?_)
    · refine rp_aload_n 0 dX4_passHour_136 rfl ?_
      refine rp_dup dX4_passHour_137 rfl ?_
      refine rp_getI fi_X4_33 h0 rfl dX4_passHour_138 (fun x18 => ?_)
      refine rp_iconst (1 : Int32) dX4_passHour_141 (by decide) ?_
      refine rp_iadd dX4_passHour_142 ?_
      refine rp_putI fi_X4_33 fp_X4_5 h0 rfl dX4_passHour_143 ?_
      refine rp_iload_n 1 dX4_passHour_146 rfl ?_
      exact rp_pu (rp_iret rfl dX4_passHour_147)
    refine rp_sub [2, 3, 4, 1, 0] rfl (rp_it (fun (s3 : Int32 × Int32) => [(0, .ref (K.2.1 + a0)), (1, .int p1), (2, .int s3.1), (3, .int v2), (4, .int s3.2)]) (fun N18 ih18 s3 => ?_) FU ((0 : Int32), (0 : Int32)))
    refine rp_iload_n 1 dX4_passHour_18 rfl ?_
    refine rp_if_eq 136 dX4_passHour_19 (by decide) ?_ ?_
    · exact rp_sub [0, 2] rfl (rp_puR (hX18_0 s3.1))
    · refine rp_iload 4 dX4_passHour_22 rfl ?_
      refine rp_aload_n 0 dX4_passHour_24 rfl ?_
      refine rp_getR fi_X4_24 h0 rfl dX4_passHour_25 ?_
      refine rp_getI fi_X4_61 (tX4_0 h0) rfl dX4_passHour_28 (fun x4 => ?_)
      refine rp_icmp_ge 136 dX4_passHour_31 (by decide) ?_ ?_
      · exact rp_sub [0, 2] rfl (rp_puR (hX18_0 s3.1))
      · refine rp_aload_n 0 dX4_passHour_34 rfl ?_
        refine rp_getR fi_X4_15 h0 rfl dX4_passHour_35 ?_
        refine rp_iload 4 dX4_passHour_38 rfl ?_
        refine rp_iald (tX4_2 h0) dX4_passHour_40 (fun x5 => ?_)
        refine rp_iconst (-1 : Int32) dX4_passHour_41 (by decide) ?_
        refine rp_as ?_
        refine rp_join 130 (fun (v15 : Int32) => [(0, .ref (K.2.1 + a0)), (1, .int p1), (2, .int v15), (3, .int v2), (4, .int s3.2)]) (fun v15 => []) (fun v15 => ?_) (fun hJ130 => ?_)
        · refine rp_iinc (fun y16 => [(4, .int y16), (0, .ref (K.2.1 + a0)), (1, .int p1), (2, .int v15), (3, .int v2)]) 4 dX4_passHour_130 rfl (by rfl) (by decide) (fun y16 => rfl) (fun y16 => ?_)
          refine rp_goto 18 dX4_passHour_133 (by decide) ?_
          exact rp_sub [1, 2, 3, 4, 0] rfl (ih18 (v15, y16))
        refine rp_icmp_eq 130 dX4_passHour_42 (by decide) ?_ ?_
        · exact rp_sub [0, 1, 2, 3, 4] rfl (rp_pu (hJ130 s3.1))
        · refine rp_aload_n 0 dX4_passHour_45 rfl ?_
          refine rp_getR fi_X4_9 h0 rfl dX4_passHour_46 ?_
          refine rp_iload 4 dX4_passHour_49 rfl ?_
          refine rp_iald (tX4_1 h0) dX4_passHour_51 (fun x6 => ?_)
          refine rp_if_le 130 dX4_passHour_52 (by decide) ?_ ?_
          · exact rp_sub [0, 1, 2, 3, 4] rfl (rp_pu (hJ130 s3.1))
          · refine rp_aload_n 0 dX4_passHour_55 rfl ?_
            refine rp_getR fi_X4_24 h0 rfl dX4_passHour_56 ?_
            refine rp_getR fi_X4_64 (tX4_0 h0) rfl dX4_passHour_59 ?_
            refine rp_aload_n 0 dX4_passHour_62 rfl ?_
            refine rp_getR fi_X4_9 h0 rfl dX4_passHour_63 ?_
            refine rp_iload 4 dX4_passHour_66 rfl ?_
            refine rp_iald (tX4_1 h0) dX4_passHour_68 (fun x7 => ?_)
            refine rp_iconst (3 : Int32) dX4_passHour_69 (by decide) ?_
            refine rp_aload_n 0 dX4_passHour_70 rfl ?_
            refine rp_getR fi_X4_18 h0 rfl dX4_passHour_71 ?_
            refine rp_iload 4 dX4_passHour_74 rfl ?_
            refine rp_iald (tX4_3 h0) dX4_passHour_76 (fun x8 => ?_)
            refine rp_isub dX4_passHour_77 ?_
            refine rp_iload_n 3 dX4_passHour_78 rfl ?_
            refine rp_aload_n 0 dX4_passHour_79 rfl ?_
            refine rp_getI fi_X4_33 h0 rfl dX4_passHour_80 (fun x9 => ?_)
            refine rp_callVi [.int x7, .int ((3 : Int32) - x8), .int v2, .int x9] (SX0_drop (hn := hn) (rf (rf a0 0) 8) x7 ((3 : Int32) - x8) v2 x9 (tX7_8 (tX4_0 h0))) cvX0_drop (mw (i := 909) (by decide +kernel)) (by omega) (tX7_8 (tX4_0 h0)) (by decide) rfl rfl rfl (Nat.le_of_ble_eq_true rfl) dX4_passHour_83 (fun x10 => ?_)
            refine rp_istore [(5, .int x10), (0, .ref (K.2.1 + a0)), (1, .int p1), (2, .int s3.1), (3, .int v2), (4, .int s3.2)] dX4_passHour_86 (by decide) rfl ?_
            refine rp_aload_n 1 dX4_passHour_88 rfl ?_
            refine rp_getR fi_X4_9 h0 rfl dX4_passHour_89 ?_
            refine rp_iload 5 dX4_passHour_92 rfl ?_
            refine rp_iconst (0 : Int32) dX4_passHour_94 (by decide) ?_
            refine rp_aload_n 1 dX4_passHour_95 rfl ?_
            refine rp_getR fi_X4_9 h0 rfl dX4_passHour_96 ?_
            refine rp_iload 5 dX4_passHour_99 rfl ?_
            refine rp_iald (tX4_1 h0) dX4_passHour_101 (fun x11 => ?_)
            refine rp_iload 0 dX4_passHour_102 rfl ?_
            refine rp_isub dX4_passHour_104 ?_
            refine rp_mmax (mw (i := 921) (by decide +kernel)) (by omega) (Nat.le_of_ble_eq_true rfl) dX4_passHour_105 ?_
            refine rp_iast (tX4_1 h0) dX4_passHour_108 ?_
            refine rp_iload_n 3 dX4_passHour_109 rfl ?_
            refine rp_aload_n 1 dX4_passHour_110 rfl ?_
            refine rp_getR fi_X4_9 h0 rfl dX4_passHour_111 ?_
            refine rp_iload 5 dX4_passHour_114 rfl ?_
            refine rp_iald (tX4_1 h0) dX4_passHour_116 (fun x12 => ?_)
            refine rp_as ?_
            refine rp_join 128 (fun (v13 : Int32) => [(0, .ref (K.2.1 + a0)), (1, .int p1), (3, .int v2), (4, .int s3.2)]) (fun v13 => [.int v13, .int s3.1]) (fun v13 => ?_) (fun hJ128 => ?_)
            · refine rp_ior dX4_passHour_128 ?_
              refine rp_lti (fun y14 => ?_)
              refine rp_istore_n [(2, .int y14), (0, .ref (K.2.1 + a0)), (1, .int p1), (3, .int v2), (4, .int s3.2)] dX4_passHour_129 (by decide) rfl ?_
              exact rp_sub [1, 2, 0, 3, 4] rfl (rp_pu (hJ130 y14))
            refine rp_if_ne 127 dX4_passHour_117 (by decide) ?_ ?_
            · refine rp_iconst (0 : Int32) dX4_passHour_127 (by decide) ?_
              exact rp_sub [1, 2, 4, 5] rfl (rp_pu (hJ128 (0 : Int32)))
            · refine rp_iconst (1 : Int32) dX4_passHour_120 (by decide) ?_
              refine rp_iload 5 dX4_passHour_121 rfl ?_
              refine rp_ishl dX4_passHour_123 ?_
              refine rp_goto 128 dX4_passHour_124 (by decide) ?_
              exact rp_sub [1, 2, 4, 5] rfl (rp_pu (hJ128 ((1 : Int32) <<< (s3.2 &&& 31))))
  refine rp_if_eq 13 dX4_passHour_3 (by decide) ?_ ?_
  · refine rp_iconst (0 : Int32) dX4_passHour_13 (by decide) ?_
    exact rp_sub [1, 2, 0] rfl (rp_pu (hJ14 (0 : Int32)))
  · refine rp_aload_n 1 dX4_passHour_6 rfl ?_
    refine rp_callVi [] (SX4_wetShirts (hn := hn) a0 h0) cvX4_wetShirts (mw (i := 905) (by decide +kernel)) (by omega) h0 (by decide) rfl rfl rfl (Nat.le_of_ble_eq_true rfl) dX4_passHour_7 (fun x1 => ?_)
    refine rp_goto 14 dX4_passHour_10 (by decide) ?_
    exact rp_sub [1, 2, 0] rfl (rp_pu (hJ14 x1))

theorem dX4_freeOn_0 : decode cX4_freeOn 0 = .ok (.aload_n 0, 1) := by decide +kernel
theorem dX4_freeOn_1 : decode cX4_freeOn 1 = .ok (.getfield 24, 3) := by decide +kernel
theorem dX4_freeOn_4 : decode cX4_freeOn 4 = .ok (.getfield 83, 3) := by decide +kernel
theorem dX4_freeOn_7 : decode cX4_freeOn 7 = .ok (.iload_n 1, 1) := by decide +kernel
theorem dX4_freeOn_8 : decode cX4_freeOn 8 = .ok (.iaload, 1) := by decide +kernel
theorem dX4_freeOn_9 : decode cX4_freeOn 9 = .ok (.istore_n 2, 1) := by decide +kernel
theorem dX4_freeOn_10 : decode cX4_freeOn 10 = .ok (.iconst 0, 1) := by decide +kernel
theorem dX4_freeOn_11 : decode cX4_freeOn 11 = .ok (.istore_n 3, 1) := by decide +kernel
theorem dX4_freeOn_12 : decode cX4_freeOn 12 = .ok (.iload_n 3, 1) := by decide +kernel
theorem dX4_freeOn_13 : decode cX4_freeOn 13 = .ok (.aload_n 0, 1) := by decide +kernel
theorem dX4_freeOn_14 : decode cX4_freeOn 14 = .ok (.getfield 24, 3) := by decide +kernel
theorem dX4_freeOn_17 : decode cX4_freeOn 17 = .ok (.getfield 61, 3) := by decide +kernel
theorem dX4_freeOn_20 : decode cX4_freeOn 20 = .ok (.if_icmp .ge 28, 3) := by decide +kernel
theorem dX4_freeOn_23 : decode cX4_freeOn 23 = .ok (.aload_n 0, 1) := by decide +kernel
theorem dX4_freeOn_24 : decode cX4_freeOn 24 = .ok (.getfield 15, 3) := by decide +kernel
theorem dX4_freeOn_27 : decode cX4_freeOn 27 = .ok (.iload_n 3, 1) := by decide +kernel
theorem dX4_freeOn_28 : decode cX4_freeOn 28 = .ok (.iaload, 1) := by decide +kernel
theorem dX4_freeOn_29 : decode cX4_freeOn 29 = .ok (.iload_n 1, 1) := by decide +kernel
theorem dX4_freeOn_30 : decode cX4_freeOn 30 = .ok (.if_icmp .ne 12, 3) := by decide +kernel
theorem dX4_freeOn_33 : decode cX4_freeOn 33 = .ok (.iload_n 2, 1) := by decide +kernel
theorem dX4_freeOn_34 : decode cX4_freeOn 34 = .ok (.aload_n 0, 1) := by decide +kernel
theorem dX4_freeOn_35 : decode cX4_freeOn 35 = .ok (.getfield 18, 3) := by decide +kernel
theorem dX4_freeOn_38 : decode cX4_freeOn 38 = .ok (.iload_n 3, 1) := by decide +kernel
theorem dX4_freeOn_39 : decode cX4_freeOn 39 = .ok (.iaload, 1) := by decide +kernel
theorem dX4_freeOn_40 : decode cX4_freeOn 40 = .ok (.isub, 1) := by decide +kernel
theorem dX4_freeOn_41 : decode cX4_freeOn 41 = .ok (.istore_n 2, 1) := by decide +kernel
theorem dX4_freeOn_42 : decode cX4_freeOn 42 = .ok (.iinc 3 1, 3) := by decide +kernel
theorem dX4_freeOn_45 : decode cX4_freeOn 45 = .ok (.goto (-33), 3) := by decide +kernel
theorem dX4_freeOn_48 : decode cX4_freeOn 48 = .ok (.iload_n 2, 1) := by decide +kernel
theorem dX4_freeOn_49 : decode cX4_freeOn 49 = .ok (.ireturn, 1) := by decide +kernel
noncomputable def FX4_freeOn (a0 : Nat) (p1 : Int32) : PP Int32 := bd (aI (rf (rf a0 0) 3) 5 p1) (fun x1 => bd (it (fun (s2 : Int32 × Int32) => (bd (gI (rf a0 0) 11) (fun x3 => if x3 ≤ s2.2 then pu (Sum.inr s2.1) else bd (aI (rf a0 2) 6 s2.2) (fun x4 => bd (if x4 = p1 then bd (aI (rf a0 3) 6 s2.2) (fun x5 => lt (s2.1 - x5) (fun y6 => pu y6)) else pu s2.1 : PP (Int32)) (fun (v7 : Int32) => lt (s2.2 + (1 : Int32)) (fun y8 => pu (Sum.inl (v7, y8)))))) : PP ((Int32 × Int32) ⊕ (Int32)))) FU (x1, (0 : Int32))) (fun (v9 : Int32) => pu v9))
set_option maxHeartbeats 4000000 in
set_option maxRecDepth 100000 in
theorem SX4_freeOn {l : Launch} {K : KK} {n : Nat} {hn : 270 ≤ n} (a0 : Nat) (p1 : Int32) (h0 : ob a0 4) : CT l K n 0 mX4_freeOn [.ref (K.2.1 + a0), .int p1] enI (FX4_freeOn a0 p1) := by
  refine CT.of2 (lv2 := [(0, .ref (K.2.1 + a0)), (1, .int p1)]) (by decide) rfl hn (Nat.le_of_ble_eq_true rfl) rfl (rp_id ?_)
  unfold FX4_freeOn
  refine rp_aload_n 0 dX4_freeOn_0 rfl ?_
  refine rp_getR fi_X4_24 h0 rfl dX4_freeOn_1 ?_
  refine rp_getR fi_X4_83 (tX4_0 h0) rfl dX4_freeOn_4 ?_
  refine rp_iload_n 1 dX4_freeOn_7 rfl ?_
  refine rp_iald (tX7_3 (tX4_0 h0)) dX4_freeOn_8 (fun x1 => ?_)
  refine rp_istore_n [(2, .int x1), (0, .ref (K.2.1 + a0)), (1, .int p1)] dX4_freeOn_9 (by decide) rfl ?_
  refine rp_iconst (0 : Int32) dX4_freeOn_10 (by decide) ?_
  refine rp_istore_n [(3, .int (0 : Int32)), (2, .int x1), (0, .ref (K.2.1 + a0)), (1, .int p1)] dX4_freeOn_11 (by decide) rfl ?_
  refine rp_as ?_
  refine rp_join 48 (fun v9 => [(2, .int v9)]) (fun _ => []) (fun v9 => ?_) (fun hX12_0 => ?_)
  · refine rp_iload_n 0 dX4_freeOn_48 rfl ?_
    exact rp_pu (rp_iret rfl dX4_freeOn_49)
  refine rp_sub [2, 3, 1, 0] rfl (rp_it (fun (s2 : Int32 × Int32) => [(0, .ref (K.2.1 + a0)), (1, .int p1), (2, .int s2.1), (3, .int s2.2)]) (fun N12 ih12 s2 => ?_) FU (x1, (0 : Int32)))
  refine rp_iload_n 3 dX4_freeOn_12 rfl ?_
  refine rp_aload_n 0 dX4_freeOn_13 rfl ?_
  refine rp_getR fi_X4_24 h0 rfl dX4_freeOn_14 ?_
  refine rp_getI fi_X4_61 (tX4_0 h0) rfl dX4_freeOn_17 (fun x3 => ?_)
  refine rp_icmp_ge 48 dX4_freeOn_20 (by decide) ?_ ?_
  · exact rp_sub [2] rfl (rp_puR (hX12_0 s2.1))
  · refine rp_aload_n 0 dX4_freeOn_23 rfl ?_
    refine rp_getR fi_X4_15 h0 rfl dX4_freeOn_24 ?_
    refine rp_iload_n 3 dX4_freeOn_27 rfl ?_
    refine rp_iald (tX4_2 h0) dX4_freeOn_28 (fun x4 => ?_)
    refine rp_iload_n 1 dX4_freeOn_29 rfl ?_
    refine rp_as ?_
    refine rp_join 42 (fun (v7 : Int32) => [(0, .ref (K.2.1 + a0)), (1, .int p1), (2, .int v7), (3, .int s2.2)]) (fun v7 => []) (fun v7 => ?_) (fun hJ42 => ?_)
    · refine rp_iinc (fun y8 => [(3, .int y8), (0, .ref (K.2.1 + a0)), (1, .int p1), (2, .int v7)]) 3 dX4_freeOn_42 rfl (by rfl) (by decide) (fun y8 => rfl) (fun y8 => ?_)
      refine rp_goto 12 dX4_freeOn_45 (by decide) ?_
      exact rp_sub [1, 2, 3, 0] rfl (ih12 (v7, y8))
    refine rp_icmp_ne 42 dX4_freeOn_30 (by decide) ?_ ?_
    · exact rp_sub [0, 1, 2, 3] rfl (rp_pu (hJ42 s2.1))
    · refine rp_iload_n 2 dX4_freeOn_33 rfl ?_
      refine rp_aload_n 0 dX4_freeOn_34 rfl ?_
      refine rp_getR fi_X4_18 h0 rfl dX4_freeOn_35 ?_
      refine rp_iload_n 3 dX4_freeOn_38 rfl ?_
      refine rp_iald (tX4_3 h0) dX4_freeOn_39 (fun x5 => ?_)
      refine rp_isub dX4_freeOn_40 ?_
      refine rp_lti (fun y6 => ?_)
      refine rp_istore_n [(2, .int y6), (0, .ref (K.2.1 + a0)), (1, .int p1), (3, .int s2.2)] dX4_freeOn_41 (by decide) rfl ?_
      exact rp_sub [1, 2, 0, 3] rfl (rp_pu (hJ42 y6))

theorem dX4_freeInAll_0 : decode cX4_freeInAll 0 = .ok (.iconst 0, 1) := by decide +kernel
theorem dX4_freeInAll_1 : decode cX4_freeInAll 1 = .ok (.istore_n 1, 1) := by decide +kernel
theorem dX4_freeInAll_2 : decode cX4_freeInAll 2 = .ok (.iconst 0, 1) := by decide +kernel
theorem dX4_freeInAll_3 : decode cX4_freeInAll 3 = .ok (.istore_n 2, 1) := by decide +kernel
theorem dX4_freeInAll_4 : decode cX4_freeInAll 4 = .ok (.iload_n 2, 1) := by decide +kernel
theorem dX4_freeInAll_5 : decode cX4_freeInAll 5 = .ok (.aload_n 0, 1) := by decide +kernel
theorem dX4_freeInAll_6 : decode cX4_freeInAll 6 = .ok (.getfield 24, 3) := by decide +kernel
theorem dX4_freeInAll_9 : decode cX4_freeInAll 9 = .ok (.getfield 86, 3) := by decide +kernel
theorem dX4_freeInAll_12 : decode cX4_freeInAll 12 = .ok (.if_icmp .ge 17, 3) := by decide +kernel
theorem dX4_freeInAll_15 : decode cX4_freeInAll 15 = .ok (.iload_n 1, 1) := by decide +kernel
theorem dX4_freeInAll_16 : decode cX4_freeInAll 16 = .ok (.aload_n 0, 1) := by decide +kernel
theorem dX4_freeInAll_17 : decode cX4_freeInAll 17 = .ok (.iload_n 2, 1) := by decide +kernel
theorem dX4_freeInAll_18 : decode cX4_freeInAll 18 = .ok (.invokevirtual 53, 3) := by decide +kernel
theorem dX4_freeInAll_21 : decode cX4_freeInAll 21 = .ok (.iadd, 1) := by decide +kernel
theorem dX4_freeInAll_22 : decode cX4_freeInAll 22 = .ok (.istore_n 1, 1) := by decide +kernel
theorem dX4_freeInAll_23 : decode cX4_freeInAll 23 = .ok (.iinc 2 1, 3) := by decide +kernel
theorem dX4_freeInAll_26 : decode cX4_freeInAll 26 = .ok (.goto (-22), 3) := by decide +kernel
theorem dX4_freeInAll_29 : decode cX4_freeInAll 29 = .ok (.iload_n 1, 1) := by decide +kernel
theorem dX4_freeInAll_30 : decode cX4_freeInAll 30 = .ok (.ireturn, 1) := by decide +kernel
noncomputable def FX4_freeInAll (a0 : Nat) : PP Int32 := bd (it (fun (s1 : Int32 × Int32) => (bd (gI (rf a0 0) 9) (fun x2 => if x2 ≤ s1.2 then pu (Sum.inr s1.1) else bd (FX4_freeOn a0 s1.2) (fun x3 => lt (s1.1 + x3) (fun y4 => lt (s1.2 + (1 : Int32)) (fun y5 => pu (Sum.inl (y4, y5)))))) : PP ((Int32 × Int32) ⊕ (Int32)))) FU ((0 : Int32), (0 : Int32))) (fun (v6 : Int32) => pu v6)
set_option maxHeartbeats 4000000 in
set_option maxRecDepth 100000 in
theorem SX4_freeInAll {l : Launch} {K : KK} {n : Nat} {hn : 270 ≤ n} (a0 : Nat) (h0 : ob a0 4) : CT l K n 1 mX4_freeInAll [.ref (K.2.1 + a0)] enI (FX4_freeInAll a0) := by
  refine CT.of2 (lv2 := [(0, .ref (K.2.1 + a0))]) (by decide) rfl hn (Nat.le_of_ble_eq_true rfl) rfl (rp_id ?_)
  unfold FX4_freeInAll
  refine rp_iconst (0 : Int32) dX4_freeInAll_0 (by decide) ?_
  refine rp_istore_n [(1, .int (0 : Int32)), (0, .ref (K.2.1 + a0))] dX4_freeInAll_1 (by decide) rfl ?_
  refine rp_iconst (0 : Int32) dX4_freeInAll_2 (by decide) ?_
  refine rp_istore_n [(2, .int (0 : Int32)), (1, .int (0 : Int32)), (0, .ref (K.2.1 + a0))] dX4_freeInAll_3 (by decide) rfl ?_
  refine rp_as ?_
  refine rp_join 29 (fun v6 => [(1, .int v6)]) (fun _ => []) (fun v6 => ?_) (fun hX4_0 => ?_)
  · refine rp_iload_n 0 dX4_freeInAll_29 rfl ?_
    exact rp_pu (rp_iret rfl dX4_freeInAll_30)
  refine rp_sub [2, 1, 0] rfl (rp_it (fun (s1 : Int32 × Int32) => [(0, .ref (K.2.1 + a0)), (1, .int s1.1), (2, .int s1.2)]) (fun N4 ih4 s1 => ?_) FU ((0 : Int32), (0 : Int32)))
  refine rp_iload_n 2 dX4_freeInAll_4 rfl ?_
  refine rp_aload_n 0 dX4_freeInAll_5 rfl ?_
  refine rp_getR fi_X4_24 h0 rfl dX4_freeInAll_6 ?_
  refine rp_getI fi_X4_86 (tX4_0 h0) rfl dX4_freeInAll_9 (fun x2 => ?_)
  refine rp_icmp_ge 29 dX4_freeInAll_12 (by decide) ?_ ?_
  · exact rp_sub [1] rfl (rp_puR (hX4_0 s1.1))
  · refine rp_iload_n 1 dX4_freeInAll_15 rfl ?_
    refine rp_aload_n 0 dX4_freeInAll_16 rfl ?_
    refine rp_iload_n 2 dX4_freeInAll_17 rfl ?_
    refine rp_callVi [.int s1.2] (SX4_freeOn (hn := hn) a0 s1.2 h0) cvX4_freeOn (mw (i := 843) (by decide +kernel)) (by omega) h0 (by decide) rfl rfl rfl (Nat.le_of_ble_eq_true rfl) dX4_freeInAll_18 (fun x3 => ?_)
    refine rp_iadd dX4_freeInAll_21 ?_
    refine rp_lti (fun y4 => ?_)
    refine rp_istore_n [(1, .int y4), (0, .ref (K.2.1 + a0)), (2, .int s1.2)] dX4_freeInAll_22 (by decide) rfl ?_
    refine rp_iinc (fun y5 => [(2, .int y5), (1, .int y4), (0, .ref (K.2.1 + a0))]) 2 dX4_freeInAll_23 rfl (by rfl) (by decide) (fun y5 => rfl) (fun y5 => ?_)
    refine rp_goto 4 dX4_freeInAll_26 (by decide) ?_
    exact rp_sub [2, 1, 0] rfl (ih4 (y4, y5))

theorem dX4_clothsOn_0 : decode cX4_clothsOn 0 = .ok (.iconst 0, 1) := by decide +kernel
theorem dX4_clothsOn_1 : decode cX4_clothsOn 1 = .ok (.istore_n 2, 1) := by decide +kernel
theorem dX4_clothsOn_2 : decode cX4_clothsOn 2 = .ok (.iconst 0, 1) := by decide +kernel
theorem dX4_clothsOn_3 : decode cX4_clothsOn 3 = .ok (.istore_n 3, 1) := by decide +kernel
theorem dX4_clothsOn_4 : decode cX4_clothsOn 4 = .ok (.iload_n 3, 1) := by decide +kernel
theorem dX4_clothsOn_5 : decode cX4_clothsOn 5 = .ok (.aload_n 0, 1) := by decide +kernel
theorem dX4_clothsOn_6 : decode cX4_clothsOn 6 = .ok (.getfield 24, 3) := by decide +kernel
theorem dX4_clothsOn_9 : decode cX4_clothsOn 9 = .ok (.getfield 61, 3) := by decide +kernel
theorem dX4_clothsOn_12 : decode cX4_clothsOn 12 = .ok (.if_icmp .ge 29, 3) := by decide +kernel
theorem dX4_clothsOn_15 : decode cX4_clothsOn 15 = .ok (.iload_n 2, 1) := by decide +kernel
theorem dX4_clothsOn_16 : decode cX4_clothsOn 16 = .ok (.aload_n 0, 1) := by decide +kernel
theorem dX4_clothsOn_17 : decode cX4_clothsOn 17 = .ok (.getfield 15, 3) := by decide +kernel
theorem dX4_clothsOn_20 : decode cX4_clothsOn 20 = .ok (.iload_n 3, 1) := by decide +kernel
theorem dX4_clothsOn_21 : decode cX4_clothsOn 21 = .ok (.iaload, 1) := by decide +kernel
theorem dX4_clothsOn_22 : decode cX4_clothsOn 22 = .ok (.iload_n 1, 1) := by decide +kernel
theorem dX4_clothsOn_23 : decode cX4_clothsOn 23 = .ok (.if_icmp .ne 9, 3) := by decide +kernel
theorem dX4_clothsOn_26 : decode cX4_clothsOn 26 = .ok (.iconst 1, 1) := by decide +kernel
theorem dX4_clothsOn_27 : decode cX4_clothsOn 27 = .ok (.iload_n 3, 1) := by decide +kernel
theorem dX4_clothsOn_28 : decode cX4_clothsOn 28 = .ok (.ishl, 1) := by decide +kernel
theorem dX4_clothsOn_29 : decode cX4_clothsOn 29 = .ok (.goto 4, 3) := by decide +kernel
theorem dX4_clothsOn_32 : decode cX4_clothsOn 32 = .ok (.iconst 0, 1) := by decide +kernel
theorem dX4_clothsOn_33 : decode cX4_clothsOn 33 = .ok (.ior, 1) := by decide +kernel
theorem dX4_clothsOn_34 : decode cX4_clothsOn 34 = .ok (.istore_n 2, 1) := by decide +kernel
theorem dX4_clothsOn_35 : decode cX4_clothsOn 35 = .ok (.iinc 3 1, 3) := by decide +kernel
theorem dX4_clothsOn_38 : decode cX4_clothsOn 38 = .ok (.goto (-34), 3) := by decide +kernel
theorem dX4_clothsOn_41 : decode cX4_clothsOn 41 = .ok (.iload_n 2, 1) := by decide +kernel
theorem dX4_clothsOn_42 : decode cX4_clothsOn 42 = .ok (.ireturn, 1) := by decide +kernel
noncomputable def FX4_clothsOn (a0 : Nat) (p1 : Int32) : PP Int32 := bd (it (fun (s1 : Int32 × Int32) => (bd (gI (rf a0 0) 11) (fun x2 => if x2 ≤ s1.2 then pu (Sum.inr s1.1) else bd (aI (rf a0 2) 6 s1.2) (fun x3 => bd (if x3 = p1 then pu ((1 : Int32) <<< (s1.2 &&& 31)) else pu (0 : Int32) : PP (Int32)) (fun (v4 : Int32) => lt (s1.1 ||| v4) (fun y5 => lt (s1.2 + (1 : Int32)) (fun y6 => pu (Sum.inl (y5, y6))))))) : PP ((Int32 × Int32) ⊕ (Int32)))) FU ((0 : Int32), (0 : Int32))) (fun (v7 : Int32) => pu v7)
set_option maxHeartbeats 4000000 in
set_option maxRecDepth 100000 in
theorem SX4_clothsOn {l : Launch} {K : KK} {n : Nat} {hn : 270 ≤ n} (a0 : Nat) (p1 : Int32) (h0 : ob a0 4) : CT l K n 0 mX4_clothsOn [.ref (K.2.1 + a0), .int p1] enI (FX4_clothsOn a0 p1) := by
  refine CT.of2 (lv2 := [(0, .ref (K.2.1 + a0)), (1, .int p1)]) (by decide) rfl hn (Nat.le_of_ble_eq_true rfl) rfl (rp_id ?_)
  unfold FX4_clothsOn
  refine rp_iconst (0 : Int32) dX4_clothsOn_0 (by decide) ?_
  refine rp_istore_n [(2, .int (0 : Int32)), (0, .ref (K.2.1 + a0)), (1, .int p1)] dX4_clothsOn_1 (by decide) rfl ?_
  refine rp_iconst (0 : Int32) dX4_clothsOn_2 (by decide) ?_
  refine rp_istore_n [(3, .int (0 : Int32)), (2, .int (0 : Int32)), (0, .ref (K.2.1 + a0)), (1, .int p1)] dX4_clothsOn_3 (by decide) rfl ?_
  refine rp_as ?_
  refine rp_join 41 (fun v7 => [(2, .int v7)]) (fun _ => []) (fun v7 => ?_) (fun hX4_0 => ?_)
  · refine rp_iload_n 0 dX4_clothsOn_41 rfl ?_
    exact rp_pu (rp_iret rfl dX4_clothsOn_42)
  refine rp_sub [2, 3, 1, 0] rfl (rp_it (fun (s1 : Int32 × Int32) => [(0, .ref (K.2.1 + a0)), (1, .int p1), (2, .int s1.1), (3, .int s1.2)]) (fun N4 ih4 s1 => ?_) FU ((0 : Int32), (0 : Int32)))
  refine rp_iload_n 3 dX4_clothsOn_4 rfl ?_
  refine rp_aload_n 0 dX4_clothsOn_5 rfl ?_
  refine rp_getR fi_X4_24 h0 rfl dX4_clothsOn_6 ?_
  refine rp_getI fi_X4_61 (tX4_0 h0) rfl dX4_clothsOn_9 (fun x2 => ?_)
  refine rp_icmp_ge 41 dX4_clothsOn_12 (by decide) ?_ ?_
  · exact rp_sub [2] rfl (rp_puR (hX4_0 s1.1))
  · refine rp_iload_n 2 dX4_clothsOn_15 rfl ?_
    refine rp_aload_n 0 dX4_clothsOn_16 rfl ?_
    refine rp_getR fi_X4_15 h0 rfl dX4_clothsOn_17 ?_
    refine rp_iload_n 3 dX4_clothsOn_20 rfl ?_
    refine rp_iald (tX4_2 h0) dX4_clothsOn_21 (fun x3 => ?_)
    refine rp_iload_n 1 dX4_clothsOn_22 rfl ?_
    refine rp_as ?_
    refine rp_join 33 (fun (v4 : Int32) => [(0, .ref (K.2.1 + a0)), (1, .int p1), (3, .int s1.2)]) (fun v4 => [.int v4, .int s1.1]) (fun v4 => ?_) (fun hJ33 => ?_)
    · refine rp_ior dX4_clothsOn_33 ?_
      refine rp_lti (fun y5 => ?_)
      refine rp_istore_n [(2, .int y5), (0, .ref (K.2.1 + a0)), (1, .int p1), (3, .int s1.2)] dX4_clothsOn_34 (by decide) rfl ?_
      refine rp_iinc (fun y6 => [(3, .int y6), (2, .int y5), (0, .ref (K.2.1 + a0)), (1, .int p1)]) 3 dX4_clothsOn_35 rfl (by rfl) (by decide) (fun y6 => rfl) (fun y6 => ?_)
      refine rp_goto 4 dX4_clothsOn_38 (by decide) ?_
      exact rp_sub [2, 3, 1, 0] rfl (ih4 (y5, y6))
    refine rp_icmp_ne 32 dX4_clothsOn_23 (by decide) ?_ ?_
    · refine rp_iconst (0 : Int32) dX4_clothsOn_32 (by decide) ?_
      exact rp_sub [0, 1, 3] rfl (rp_pu (hJ33 (0 : Int32)))
    · refine rp_iconst (1 : Int32) dX4_clothsOn_26 (by decide) ?_
      refine rp_iload_n 3 dX4_clothsOn_27 rfl ?_
      refine rp_ishl dX4_clothsOn_28 ?_
      refine rp_goto 33 dX4_clothsOn_29 (by decide) ?_
      exact rp_sub [0, 1, 3] rfl (rp_pu (hJ33 ((1 : Int32) <<< (s1.2 &&& 31))))
