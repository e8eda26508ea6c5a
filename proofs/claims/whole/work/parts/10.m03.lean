theorem dX6_agrees_0 : decode cX6_agrees 0 = .ok (.iconst 0, 1) := by decide +kernel
theorem dX6_agrees_1 : decode cX6_agrees 1 = .ok (.istore_n 2, 1) := by decide +kernel
theorem dX6_agrees_2 : decode cX6_agrees 2 = .ok (.iload_n 2, 1) := by decide +kernel
theorem dX6_agrees_3 : decode cX6_agrees 3 = .ok (.aload_n 0, 1) := by decide +kernel
theorem dX6_agrees_4 : decode cX6_agrees 4 = .ok (.getfield 39, 3) := by decide +kernel
theorem dX6_agrees_7 : decode cX6_agrees 7 = .ok (.if_icmp .ge 44, 3) := by decide +kernel
theorem dX6_agrees_10 : decode cX6_agrees 10 = .ok (.aload_n 0, 1) := by decide +kernel
theorem dX6_agrees_11 : decode cX6_agrees 11 = .ok (.getfield 15, 3) := by decide +kernel
theorem dX6_agrees_14 : decode cX6_agrees 14 = .ok (.iload_n 2, 1) := by decide +kernel
theorem dX6_agrees_15 : decode cX6_agrees 15 = .ok (.iaload, 1) := by decide +kernel
theorem dX6_agrees_16 : decode cX6_agrees 16 = .ok (.iload_n 1, 1) := by decide +kernel
theorem dX6_agrees_17 : decode cX6_agrees 17 = .ok (.if_icmp .ne 28, 3) := by decide +kernel
theorem dX6_agrees_20 : decode cX6_agrees 20 = .ok (.aload_n 0, 1) := by decide +kernel
theorem dX6_agrees_21 : decode cX6_agrees 21 = .ok (.getfield 29, 3) := by decide +kernel
theorem dX6_agrees_24 : decode cX6_agrees 24 = .ok (.aload_n 0, 1) := by decide +kernel
theorem dX6_agrees_25 : decode cX6_agrees 25 = .ok (.getfield 9, 3) := by decide +kernel
theorem dX6_agrees_28 : decode cX6_agrees 28 = .ok (.iload_n 2, 1) := by decide +kernel
theorem dX6_agrees_29 : decode cX6_agrees 29 = .ok (.iaload, 1) := by decide +kernel
theorem dX6_agrees_30 : decode cX6_agrees 30 = .ok (.iconst 0, 1) := by decide +kernel
theorem dX6_agrees_31 : decode cX6_agrees 31 = .ok (.invokevirtual 103, 3) := by decide +kernel
theorem dX6_agrees_34 : decode cX6_agrees 34 = .ok (.aload_n 0, 1) := by decide +kernel
theorem dX6_agrees_35 : decode cX6_agrees 35 = .ok (.getfield 18, 3) := by decide +kernel
theorem dX6_agrees_38 : decode cX6_agrees 38 = .ok (.iload_n 2, 1) := by decide +kernel
theorem dX6_agrees_39 : decode cX6_agrees 39 = .ok (.iaload, 1) := by decide +kernel
theorem dX6_agrees_40 : decode cX6_agrees 40 = .ok (.if_icmp .eq 5, 3) := by decide +kernel
theorem dX6_agrees_43 : decode cX6_agrees 43 = .ok (.iconst 0, 1) := by decide +kernel
theorem dX6_agrees_44 : decode cX6_agrees 44 = .ok (.ireturn, 1) := by decide +kernel
theorem dX6_agrees_45 : decode cX6_agrees 45 = .ok (.iinc 2 1, 3) := by decide +kernel
theorem dX6_agrees_48 : decode cX6_agrees 48 = .ok (.goto (-46), 3) := by decide +kernel
theorem dX6_agrees_51 : decode cX6_agrees 51 = .ok (.iconst 1, 1) := by decide +kernel
theorem dX6_agrees_52 : decode cX6_agrees 52 = .ok (.ireturn, 1) := by decide +kernel
noncomputable def FX6_agrees (a0 : Nat) (p1 : Int32) : PP Bool := bd (it (fun (s1 : Int32) => (bd (gI a0 3) (fun x2 => if x2 ≤ s1 then pu (Sum.inr (Sum.inl ())) else bd (aI (rf a0 1) 6 s1) (fun x3 => if x3 = p1 then bd (aI (rf a0 0) 6 s1) (fun x5 => bd (FX4_weather (rf a0 7) x5 (0 : Int32)) (fun x6 => bd (aI (rf a0 2) 6 s1) (fun x7 => if x6 = x7 then lt (s1 + (1 : Int32)) (fun y8 => pu (Sum.inl y8)) else pu (Sum.inr (Sum.inr (())))))) else lt (s1 + (1 : Int32)) (fun y4 => pu (Sum.inl y4)))) : PP ((Int32) ⊕ ((Unit) ⊕ (Unit))))) FU (0 : Int32)) (Sum.elim (fun (v9 : Unit) => zb (1 : Int32)) (fun (v10 : Unit) => zb (0 : Int32)))
set_option maxHeartbeats 4000000 in
set_option maxRecDepth 100000 in
theorem SX6_agrees {l : Launch} {K : KK} {n : Nat} {hn : 270 ≤ n} (a0 : Nat) (p1 : Int32) (h0 : ob a0 6) : CT l K n 2 mX6_agrees [.ref (K.2.1 + a0), .int p1] enZ (FX6_agrees a0 p1) := by
  refine CT.of2 (lv2 := [(0, .ref (K.2.1 + a0)), (1, .int p1)]) (by decide) rfl hn (Nat.le_of_ble_eq_true rfl) rfl (rp_id ?_)
  unfold FX6_agrees
  refine rp_iconst (0 : Int32) dX6_agrees_0 (by decide) ?_
  refine rp_istore_n [(2, .int (0 : Int32)), (0, .ref (K.2.1 + a0)), (1, .int p1)] dX6_agrees_1 (by decide) rfl ?_
  refine rp_as ?_
  refine rp_join2 51 (fun v9 => []) (fun _ => []) 43 (fun v10 => []) (fun _ => []) (fun v9 => ?_) (fun v10 => ?_) (fun hX2_0 hX2_1 => ?_)
  · refine rp_iconst (1 : Int32) dX6_agrees_51 (by decide) ?_
    exact rp_zretb rfl dX6_agrees_52
  · refine rp_iconst (0 : Int32) dX6_agrees_43 (by decide) ?_
    exact rp_zretb rfl dX6_agrees_44
  refine rp_sub [1, 2, 0] rfl (rp_it (fun (s1 : Int32) => [(0, .ref (K.2.1 + a0)), (1, .int p1), (2, .int s1)]) (fun N2 ih2 s1 => ?_) FU (0 : Int32))
  refine rp_iload_n 2 dX6_agrees_2 rfl ?_
  refine rp_aload_n 0 dX6_agrees_3 rfl ?_
  refine rp_getI fi_X6_39 h0 rfl dX6_agrees_4 (fun x2 => ?_)
  refine rp_icmp_ge 51 dX6_agrees_7 (by decide) ?_ ?_
  · exact rp_sub [] rfl (rp_puRL (hX2_0 ()))
  · refine rp_aload_n 0 dX6_agrees_10 rfl ?_
    refine rp_getR fi_X6_15 h0 rfl dX6_agrees_11 ?_
    refine rp_iload_n 2 dX6_agrees_14 rfl ?_
    refine rp_iald (tX6_1 h0) dX6_agrees_15 (fun x3 => ?_)
    refine rp_iload_n 1 dX6_agrees_16 rfl ?_
    refine rp_icmp_ne 45 dX6_agrees_17 (by decide) ?_ ?_
    · refine rp_iinc (fun y4 => [(2, .int y4), (0, .ref (K.2.1 + a0)), (1, .int p1)]) 2 dX6_agrees_45 rfl (by rfl) (by decide) (fun y4 => rfl) (fun y4 => ?_)
      refine rp_goto 2 dX6_agrees_48 (by decide) ?_
      exact rp_sub [1, 2, 0] rfl (ih2 y4)
    · refine rp_aload_n 0 dX6_agrees_20 rfl ?_
      refine rp_getR fi_X6_29 h0 rfl dX6_agrees_21 ?_
      refine rp_aload_n 0 dX6_agrees_24 rfl ?_
      refine rp_getR fi_X6_9 h0 rfl dX6_agrees_25 ?_
      refine rp_iload_n 2 dX6_agrees_28 rfl ?_
      refine rp_iald (tX6_0 h0) dX6_agrees_29 (fun x5 => ?_)
      refine rp_iconst (0 : Int32) dX6_agrees_30 (by decide) ?_
      refine rp_callVi [.int x5, .int (0 : Int32)] (SX4_weather (hn := hn) (rf a0 7) x5 (0 : Int32) (tX6_7 h0)) cvX4_weather (mw (i := 1100) (by decide +kernel)) (by omega) (tX6_7 h0) (by decide) rfl rfl rfl (Nat.le_of_ble_eq_true rfl) dX6_agrees_31 (fun x6 => ?_)
      refine rp_aload_n 0 dX6_agrees_34 rfl ?_
      refine rp_getR fi_X6_18 h0 rfl dX6_agrees_35 ?_
      refine rp_iload_n 2 dX6_agrees_38 rfl ?_
      refine rp_iald (tX6_2 h0) dX6_agrees_39 (fun x7 => ?_)
      refine rp_icmp_eq 45 dX6_agrees_40 (by decide) ?_ ?_
      · refine rp_iinc (fun y8 => [(2, .int y8), (0, .ref (K.2.1 + a0)), (1, .int p1)]) 2 dX6_agrees_45 rfl (by rfl) (by decide) (fun y8 => rfl) (fun y8 => ?_)
        refine rp_goto 2 dX6_agrees_48 (by decide) ?_
        exact rp_sub [1, 2, 0] rfl (ih2 y8)
      · exact rp_sub [] rfl (rp_puRR (hX2_1 ()))

theorem dX6_comesTrue_0 : decode cX6_comesTrue 0 = .ok (.iload_n 1, 1) := by decide +kernel
theorem dX6_comesTrue_1 : decode cX6_comesTrue 1 = .ok (.istore_n 2, 1) := by decide +kernel
theorem dX6_comesTrue_2 : decode cX6_comesTrue 2 = .ok (.iconst 0, 1) := by decide +kernel
theorem dX6_comesTrue_3 : decode cX6_comesTrue 3 = .ok (.istore_n 3, 1) := by decide +kernel
theorem dX6_comesTrue_4 : decode cX6_comesTrue 4 = .ok (.iload_n 3, 1) := by decide +kernel
theorem dX6_comesTrue_5 : decode cX6_comesTrue 5 = .ok (.aload_n 0, 1) := by decide +kernel
theorem dX6_comesTrue_6 : decode cX6_comesTrue 6 = .ok (.getfield 39, 3) := by decide +kernel
theorem dX6_comesTrue_9 : decode cX6_comesTrue 9 = .ok (.if_icmp .ge 20, 3) := by decide +kernel
theorem dX6_comesTrue_12 : decode cX6_comesTrue 12 = .ok (.iload_n 2, 1) := by decide +kernel
theorem dX6_comesTrue_13 : decode cX6_comesTrue 13 = .ok (.aload_n 0, 1) := by decide +kernel
theorem dX6_comesTrue_14 : decode cX6_comesTrue 14 = .ok (.getfield 15, 3) := by decide +kernel
theorem dX6_comesTrue_17 : decode cX6_comesTrue 17 = .ok (.iload_n 3, 1) := by decide +kernel
theorem dX6_comesTrue_18 : decode cX6_comesTrue 18 = .ok (.iaload, 1) := by decide +kernel
theorem dX6_comesTrue_19 : decode cX6_comesTrue 19 = .ok (.invokestatic 90, 3) := by decide +kernel
theorem dX6_comesTrue_22 : decode cX6_comesTrue 22 = .ok (.istore_n 2, 1) := by decide +kernel
theorem dX6_comesTrue_23 : decode cX6_comesTrue 23 = .ok (.iinc 3 1, 3) := by decide +kernel
theorem dX6_comesTrue_26 : decode cX6_comesTrue 26 = .ok (.goto (-22), 3) := by decide +kernel
theorem dX6_comesTrue_29 : decode cX6_comesTrue 29 = .ok (.iconst 0, 1) := by decide +kernel
theorem dX6_comesTrue_30 : decode cX6_comesTrue 30 = .ok (.istore_n 3, 1) := by decide +kernel
theorem dX6_comesTrue_31 : decode cX6_comesTrue 31 = .ok (.iload_n 3, 1) := by decide +kernel
theorem dX6_comesTrue_32 : decode cX6_comesTrue 32 = .ok (.iload_n 2, 1) := by decide +kernel
theorem dX6_comesTrue_33 : decode cX6_comesTrue 33 = .ok (.if_icmp .gt 78, 3) := by decide +kernel
theorem dX6_comesTrue_36 : decode cX6_comesTrue 36 = .ok (.iload_n 3, 1) := by decide +kernel
theorem dX6_comesTrue_37 : decode cX6_comesTrue 37 = .ok (.ifCond .le 12, 3) := by decide +kernel
theorem dX6_comesTrue_40 : decode cX6_comesTrue 40 = .ok (.aload_n 0, 1) := by decide +kernel
theorem dX6_comesTrue_41 : decode cX6_comesTrue 41 = .ok (.getfield 29, 3) := by decide +kernel
theorem dX6_comesTrue_44 : decode cX6_comesTrue 44 = .ok (.iconst 1, 1) := by decide +kernel
theorem dX6_comesTrue_45 : decode cX6_comesTrue 45 = .ok (.invokevirtual 96, 3) := by decide +kernel
theorem dX6_comesTrue_48 : decode cX6_comesTrue 48 = .ok (.pop, 1) := by decide +kernel
theorem dX6_comesTrue_49 : decode cX6_comesTrue 49 = .ok (.aload_n 0, 1) := by decide +kernel
theorem dX6_comesTrue_50 : decode cX6_comesTrue 50 = .ok (.iload_n 3, 1) := by decide +kernel
theorem dX6_comesTrue_51 : decode cX6_comesTrue 51 = .ok (.invokevirtual 100, 3) := by decide +kernel
theorem dX6_comesTrue_54 : decode cX6_comesTrue 54 = .ok (.ifCond .ne 5, 3) := by decide +kernel
theorem dX6_comesTrue_57 : decode cX6_comesTrue 57 = .ok (.iconst 0, 1) := by decide +kernel
theorem dX6_comesTrue_58 : decode cX6_comesTrue 58 = .ok (.ireturn, 1) := by decide +kernel
theorem dX6_comesTrue_59 : decode cX6_comesTrue 59 = .ok (.iconst 0, 1) := by decide +kernel
theorem dX6_comesTrue_60 : decode cX6_comesTrue 60 = .ok (.istore 4, 2) := by decide +kernel
theorem dX6_comesTrue_62 : decode cX6_comesTrue 62 = .ok (.iload_n 3, 1) := by decide +kernel
theorem dX6_comesTrue_63 : decode cX6_comesTrue 63 = .ok (.iload_n 1, 1) := by decide +kernel
theorem dX6_comesTrue_64 : decode cX6_comesTrue 64 = .ok (.if_icmp .ne 41, 3) := by decide +kernel
theorem dX6_comesTrue_67 : decode cX6_comesTrue 67 = .ok (.iload 4, 2) := by decide +kernel
theorem dX6_comesTrue_69 : decode cX6_comesTrue 69 = .ok (.aload_n 0, 1) := by decide +kernel
theorem dX6_comesTrue_70 : decode cX6_comesTrue 70 = .ok (.getfield 29, 3) := by decide +kernel
theorem dX6_comesTrue_73 : decode cX6_comesTrue 73 = .ok (.getfield 52, 3) := by decide +kernel
theorem dX6_comesTrue_76 : decode cX6_comesTrue 76 = .ok (.getfield 88, 3) := by decide +kernel
theorem dX6_comesTrue_79 : decode cX6_comesTrue 79 = .ok (.if_icmp .ge 26, 3) := by decide +kernel
theorem dX6_comesTrue_82 : decode cX6_comesTrue 82 = .ok (.aload_n 0, 1) := by decide +kernel
theorem dX6_comesTrue_83 : decode cX6_comesTrue 83 = .ok (.getfield 26, 3) := by decide +kernel
theorem dX6_comesTrue_86 : decode cX6_comesTrue 86 = .ok (.iload 4, 2) := by decide +kernel
theorem dX6_comesTrue_88 : decode cX6_comesTrue 88 = .ok (.aload_n 0, 1) := by decide +kernel
theorem dX6_comesTrue_89 : decode cX6_comesTrue 89 = .ok (.getfield 29, 3) := by decide +kernel
theorem dX6_comesTrue_92 : decode cX6_comesTrue 92 = .ok (.iload 4, 2) := by decide +kernel
theorem dX6_comesTrue_94 : decode cX6_comesTrue 94 = .ok (.iconst 0, 1) := by decide +kernel
theorem dX6_comesTrue_95 : decode cX6_comesTrue 95 = .ok (.invokevirtual 103, 3) := by decide +kernel
theorem dX6_comesTrue_98 : decode cX6_comesTrue 98 = .ok (.iastore, 1) := by decide +kernel
theorem dX6_comesTrue_99 : decode cX6_comesTrue 99 = .ok (.iinc 4 1, 3) := by decide +kernel
theorem dX6_comesTrue_102 : decode cX6_comesTrue 102 = .ok (.goto (-40), 3) := by decide +kernel
theorem dX6_comesTrue_105 : decode cX6_comesTrue 105 = .ok (.iinc 3 1, 3) := by decide +kernel
theorem dX6_comesTrue_108 : decode cX6_comesTrue 108 = .ok (.goto (-77), 3) := by decide +kernel
theorem dX6_comesTrue_111 : decode cX6_comesTrue 111 = .ok (.iconst 1, 1) := by decide +kernel
theorem dX6_comesTrue_112 : decode cX6_comesTrue 112 = .ok (.ireturn, 1) := by decide +kernel
noncomputable def FX6_comesTrue (a0 : Nat) (p1 : Int32) : PP Bool := bd (it (fun (s1 : Int32 × Int32) => (bd (gI a0 3) (fun x2 => if x2 ≤ s1.2 then pu (Sum.inr s1.1) else bd (aI (rf a0 1) 6 s1.2) (fun x3 => lt ((if s1.1 < x3 then x3 else s1.1)) (fun y4 => lt (s1.2 + (1 : Int32)) (fun y5 => pu (Sum.inl (y4, y5)))))) : PP ((Int32 × Int32) ⊕ (Int32)))) FU (p1, (0 : Int32))) (fun (v6 : Int32) => bd (it (fun (s7 : Int32) => (if v6 < s7 then pu (Sum.inr (Sum.inl ())) else bd (if s7 ≤ 0 then pu () else bd (FX4_passHour (rf a0 7) (1 : Int32)) (fun x8 => pu ()) : PP (Unit)) (fun (v9 : Unit) => bd (FX6_agrees a0 s7) (fun x10 => if ((b2i x10)) = 0 then pu (Sum.inr (Sum.inr (()))) else bd (it (fun (s11 : Int32) => (if s7 = p1 then bd (gI (rf (rf a0 7) 0) 10) (fun x12 => if x12 ≤ s11 then pu (Sum.inr ()) else bd (FX4_weather (rf a0 7) s11 (0 : Int32)) (fun x13 => bd (uI (rf a0 9) 4 s11 x13) (fun (_ : Unit) => lt (s11 + (1 : Int32)) (fun y14 => pu (Sum.inl y14))))) else pu (Sum.inr ()) : PP ((Int32) ⊕ (Unit)))) FU (0 : Int32)) (fun (v15 : Unit) => lt (s7 + (1 : Int32)) (fun y16 => pu (Sum.inl y16))))) : PP ((Int32) ⊕ ((Unit) ⊕ (Unit))))) FU (0 : Int32)) (Sum.elim (fun (v17 : Unit) => zb (1 : Int32)) (fun (v18 : Unit) => zb (0 : Int32))))
set_option maxHeartbeats 4000000 in
set_option maxRecDepth 100000 in
theorem SX6_comesTrue {l : Launch} {K : KK} {n : Nat} {hn : 270 ≤ n} (a0 : Nat) (p1 : Int32) (h0 : ob a0 6) : CT l K n 3 mX6_comesTrue [.ref (K.2.1 + a0), .int p1] enZ (FX6_comesTrue a0 p1) := by
  refine CT.of2 (lv2 := [(0, .ref (K.2.1 + a0)), (1, .int p1)]) (by decide) rfl hn (Nat.le_of_ble_eq_true rfl) rfl (rp_id ?_)
  unfold FX6_comesTrue
  refine rp_iload_n 1 dX6_comesTrue_0 rfl ?_
  refine rp_istore_n [(2, .int p1), (0, .ref (K.2.1 + a0)), (1, .int p1)] dX6_comesTrue_1 (by decide) rfl ?_
  refine rp_iconst (0 : Int32) dX6_comesTrue_2 (by decide) ?_
  refine rp_istore_n [(3, .int (0 : Int32)), (2, .int p1), (0, .ref (K.2.1 + a0)), (1, .int p1)] dX6_comesTrue_3 (by decide) rfl ?_
  refine rp_as ?_
  refine rp_join 29 (fun v6 => [(0, .ref (K.2.1 + a0)), (1, .int p1), (2, .int v6)]) (fun _ => []) (fun v6 => ?_) (fun hX4_0 => ?_)
  · refine rp_iconst (0 : Int32) dX6_comesTrue_29 (by decide) ?_
    refine rp_istore_n [(3, .int (0 : Int32)), (0, .ref (K.2.1 + a0)), (1, .int p1), (2, .int v6)] dX6_comesTrue_30 (by decide) rfl ?_
    refine rp_as ?_
    refine rp_join2 111 (fun v17 => []) (fun _ => []) 57 (fun v18 => []) (fun _ => []) (fun v17 => ?_) (fun v18 => ?_) (fun hX31_0 hX31_1 => ?_)
    · refine rp_iconst (1 : Int32) dX6_comesTrue_111 (by decide) ?_
      exact rp_zretb rfl dX6_comesTrue_112
    · refine rp_iconst (0 : Int32) dX6_comesTrue_57 (by decide) ?_
      exact rp_zretb rfl dX6_comesTrue_58
    refine rp_sub [1, 2, 3, 0] rfl (rp_it (fun (s7 : Int32) => [(0, .ref (K.2.1 + a0)), (1, .int p1), (2, .int v6), (3, .int s7)]) (fun N31 ih31 s7 => ?_) FU (0 : Int32))
    refine rp_iload_n 3 dX6_comesTrue_31 rfl ?_
    refine rp_iload_n 2 dX6_comesTrue_32 rfl ?_
    refine rp_icmp_gt 111 dX6_comesTrue_33 (by decide) ?_ ?_
    · exact rp_sub [] rfl (rp_puRL (hX31_0 ()))
    · refine rp_iload_n 3 dX6_comesTrue_36 rfl ?_
      refine rp_as ?_
      refine rp_join 49 (fun (v9 : Unit) => [(0, .ref (K.2.1 + a0)), (1, .int p1), (2, .int v6), (3, .int s7)]) (fun v9 => []) (fun v9 => ?_) (fun hJ49 => ?_)
      · refine rp_aload_n 0 dX6_comesTrue_49 rfl ?_
        refine rp_iload_n 3 dX6_comesTrue_50 rfl ?_
        refine rp_callVz [.int s7] (SX6_agrees (hn := hn) a0 s7 h0) cvX6_agrees (mw (i := 1096) (by decide +kernel)) (by omega) h0 (by decide) rfl rfl rfl (Nat.le_of_ble_eq_true rfl) dX6_comesTrue_51 (fun x10 => ?_)
        refine rp_if_ne 59 dX6_comesTrue_54 (by decide) ?_ ?_
        · refine rp_iconst (0 : Int32) dX6_comesTrue_59 (by decide) ?_
          refine rp_istore [(4, .int (0 : Int32)), (0, .ref (K.2.1 + a0)), (1, .int p1), (2, .int v6), (3, .int s7)] dX6_comesTrue_60 (by decide) rfl ?_
          refine rp_as ?_
          refine rp_join 105 (fun v15 => [(0, .ref (K.2.1 + a0)), (1, .int p1), (2, .int v6), (3, .int s7)]) (fun _ => []) (fun v15 => ?_) (fun hX62_0 => ?_)
          · refine rp_iinc (fun y16 => [(3, .int y16), (0, .ref (K.2.1 + a0)), (1, .int p1), (2, .int v6)]) 3 dX6_comesTrue_105 rfl (by rfl) (by decide) (fun y16 => rfl) (fun y16 => ?_)
            refine rp_goto 31 dX6_comesTrue_108 (by decide) ?_
            exact rp_sub [1, 2, 3, 0] rfl (ih31 y16)
          refine rp_sub [1, 2, 3, 4, 0] rfl (rp_it (fun (s11 : Int32) => [(0, .ref (K.2.1 + a0)), (1, .int p1), (2, .int v6), (3, .int s7), (4, .int s11)]) (fun N62 ih62 s11 => ?_) FU (0 : Int32))
          refine rp_iload_n 3 dX6_comesTrue_62 rfl ?_
          refine rp_iload_n 1 dX6_comesTrue_63 rfl ?_
          refine rp_icmp_ne 105 dX6_comesTrue_64 (by decide) ?_ ?_
          · exact rp_sub [0, 1, 2, 3] rfl (rp_puR (hX62_0 ()))
          · refine rp_iload 4 dX6_comesTrue_67 rfl ?_
            refine rp_aload_n 0 dX6_comesTrue_69 rfl ?_
            refine rp_getR fi_X6_29 h0 rfl dX6_comesTrue_70 ?_
            refine rp_getR fi_X6_52 (tX6_7 h0) rfl dX6_comesTrue_73 ?_
            refine rp_getI fi_X6_88 (tX4_0 (tX6_7 h0)) rfl dX6_comesTrue_76 (fun x12 => ?_)
            refine rp_icmp_ge 105 dX6_comesTrue_79 (by decide) ?_ ?_
            · exact rp_sub [0, 1, 2, 3] rfl (rp_puR (hX62_0 ()))
            · refine rp_aload_n 0 dX6_comesTrue_82 rfl ?_
              refine rp_getR fi_X6_26 h0 rfl dX6_comesTrue_83 ?_
              refine rp_iload 4 dX6_comesTrue_86 rfl ?_
              refine rp_aload_n 0 dX6_comesTrue_88 rfl ?_
              refine rp_getR fi_X6_29 h0 rfl dX6_comesTrue_89 ?_
              refine rp_iload 4 dX6_comesTrue_92 rfl ?_
              refine rp_iconst (0 : Int32) dX6_comesTrue_94 (by decide) ?_
              refine rp_callVi [.int s11, .int (0 : Int32)] (SX4_weather (hn := hn) (rf a0 7) s11 (0 : Int32) (tX6_7 h0)) cvX4_weather (mw (i := 1100) (by decide +kernel)) (by omega) (tX6_7 h0) (by decide) rfl rfl rfl (Nat.le_of_ble_eq_true rfl) dX6_comesTrue_95 (fun x13 => ?_)
              refine rp_iast (tX6_9 h0) dX6_comesTrue_98 ?_
              refine rp_iinc (fun y14 => [(4, .int y14), (0, .ref (K.2.1 + a0)), (1, .int p1), (2, .int v6), (3, .int s7)]) 4 dX6_comesTrue_99 rfl (by rfl) (by decide) (fun y14 => rfl) (fun y14 => ?_)
              refine rp_goto 62 dX6_comesTrue_102 (by decide) ?_
              exact rp_sub [1, 2, 3, 4, 0] rfl (ih62 y14)
        · exact rp_sub [] rfl (rp_puRR (hX31_1 ()))
      refine rp_if_le 49 dX6_comesTrue_37 (by decide) ?_ ?_
      · exact rp_sub [0, 1, 2, 3] rfl (rp_pu (hJ49 ()))
      · refine rp_aload_n 0 dX6_comesTrue_40 rfl ?_
        refine rp_getR fi_X6_29 h0 rfl dX6_comesTrue_41 ?_
        refine rp_iconst (1 : Int32) dX6_comesTrue_44 (by decide) ?_
        refine rp_callVi [.int (1 : Int32)] (SX4_passHour (hn := hn) (rf a0 7) (1 : Int32) (tX6_7 h0)) cvX4_passHour (mw (i := 1095) (by decide +kernel)) (by omega) (tX6_7 h0) (by decide) rfl rfl rfl (Nat.le_of_ble_eq_true rfl) dX6_comesTrue_45 (fun x8 => ?_)
        refine rp_pop dX6_comesTrue_48 rfl ?_
        exact rp_sub [0, 1, 2, 3] rfl (rp_pu (hJ49 ()))
  refine rp_sub [2, 3, 1, 0] rfl (rp_it (fun (s1 : Int32 × Int32) => [(0, .ref (K.2.1 + a0)), (1, .int p1), (2, .int s1.1), (3, .int s1.2)]) (fun N4 ih4 s1 => ?_) FU (p1, (0 : Int32)))
  refine rp_iload_n 3 dX6_comesTrue_4 rfl ?_
  refine rp_aload_n 0 dX6_comesTrue_5 rfl ?_
  refine rp_getI fi_X6_39 h0 rfl dX6_comesTrue_6 (fun x2 => ?_)
  refine rp_icmp_ge 29 dX6_comesTrue_9 (by decide) ?_ ?_
  · exact rp_sub [0, 1, 2] rfl (rp_puR (hX4_0 s1.1))
  · refine rp_iload_n 2 dX6_comesTrue_12 rfl ?_
    refine rp_aload_n 0 dX6_comesTrue_13 rfl ?_
    refine rp_getR fi_X6_15 h0 rfl dX6_comesTrue_14 ?_
    refine rp_iload_n 3 dX6_comesTrue_17 rfl ?_
    refine rp_iald (tX6_1 h0) dX6_comesTrue_18 (fun x3 => ?_)
    refine rp_mmax (mw (i := 1094) (by decide +kernel)) (by omega) (Nat.le_of_ble_eq_true rfl) dX6_comesTrue_19 ?_
    refine rp_lti (fun y4 => ?_)
    refine rp_istore_n [(2, .int y4), (0, .ref (K.2.1 + a0)), (1, .int p1), (3, .int s1.2)] dX6_comesTrue_22 (by decide) rfl ?_
    refine rp_iinc (fun y5 => [(3, .int y5), (2, .int y4), (0, .ref (K.2.1 + a0)), (1, .int p1)]) 3 dX6_comesTrue_23 rfl (by rfl) (by decide) (fun y5 => rfl) (fun y5 => ?_)
    refine rp_goto 4 dX6_comesTrue_26 (by decide) ?_
    exact rp_sub [2, 3, 1, 0] rfl (ih4 (y4, y5))

theorem dX6_tryPair_0 : decode cX6_tryPair 0 = .ok (.aload_n 0, 1) := by decide +kernel
theorem dX6_tryPair_1 : decode cX6_tryPair 1 = .ok (.iload_n 3, 1) := by decide +kernel
theorem dX6_tryPair_2 : decode cX6_tryPair 2 = .ok (.invokevirtual 85, 3) := by decide +kernel
theorem dX6_tryPair_5 : decode cX6_tryPair 5 = .ok (.ifCond .ne 4, 3) := by decide +kernel
theorem dX6_tryPair_8 : decode cX6_tryPair 8 = .ok (.return_, 1) := by decide +kernel
theorem dX6_tryPair_9 : decode cX6_tryPair 9 = .ok (.aload_n 0, 1) := by decide +kernel
theorem dX6_tryPair_10 : decode cX6_tryPair 10 = .ok (.dup, 1) := by decide +kernel
theorem dX6_tryPair_11 : decode cX6_tryPair 11 = .ok (.getfield 43, 3) := by decide +kernel
theorem dX6_tryPair_14 : decode cX6_tryPair 14 = .ok (.iconst 1, 1) := by decide +kernel
theorem dX6_tryPair_15 : decode cX6_tryPair 15 = .ok (.iadd, 1) := by decide +kernel
theorem dX6_tryPair_16 : decode cX6_tryPair 16 = .ok (.putfield 43, 3) := by decide +kernel
theorem dX6_tryPair_19 : decode cX6_tryPair 19 = .ok (.aload_n 0, 1) := by decide +kernel
theorem dX6_tryPair_20 : decode cX6_tryPair 20 = .ok (.dup, 1) := by decide +kernel
theorem dX6_tryPair_21 : decode cX6_tryPair 21 = .ok (.getfield 46, 3) := by decide +kernel
theorem dX6_tryPair_24 : decode cX6_tryPair 24 = .ok (.iconst 1, 1) := by decide +kernel
theorem dX6_tryPair_25 : decode cX6_tryPair 25 = .ok (.iload_n 1, 1) := by decide +kernel
theorem dX6_tryPair_26 : decode cX6_tryPair 26 = .ok (.ishl, 1) := by decide +kernel
theorem dX6_tryPair_27 : decode cX6_tryPair 27 = .ok (.ior, 1) := by decide +kernel
theorem dX6_tryPair_28 : decode cX6_tryPair 28 = .ok (.putfield 46, 3) := by decide +kernel
theorem dX6_tryPair_31 : decode cX6_tryPair 31 = .ok (.aload_n 0, 1) := by decide +kernel
theorem dX6_tryPair_32 : decode cX6_tryPair 32 = .ok (.dup, 1) := by decide +kernel
theorem dX6_tryPair_33 : decode cX6_tryPair 33 = .ok (.getfield 49, 3) := by decide +kernel
theorem dX6_tryPair_36 : decode cX6_tryPair 36 = .ok (.iconst 1, 1) := by decide +kernel
theorem dX6_tryPair_37 : decode cX6_tryPair 37 = .ok (.iload_n 2, 1) := by decide +kernel
theorem dX6_tryPair_38 : decode cX6_tryPair 38 = .ok (.ishl, 1) := by decide +kernel
theorem dX6_tryPair_39 : decode cX6_tryPair 39 = .ok (.ior, 1) := by decide +kernel
theorem dX6_tryPair_40 : decode cX6_tryPair 40 = .ok (.putfield 49, 3) := by decide +kernel
theorem dX6_tryPair_43 : decode cX6_tryPair 43 = .ok (.iconst 0, 1) := by decide +kernel
theorem dX6_tryPair_44 : decode cX6_tryPair 44 = .ok (.istore 4, 2) := by decide +kernel
theorem dX6_tryPair_46 : decode cX6_tryPair 46 = .ok (.iload 4, 2) := by decide +kernel
theorem dX6_tryPair_48 : decode cX6_tryPair 48 = .ok (.aload_n 0, 1) := by decide +kernel
theorem dX6_tryPair_49 : decode cX6_tryPair 49 = .ok (.getfield 29, 3) := by decide +kernel
theorem dX6_tryPair_52 : decode cX6_tryPair 52 = .ok (.getfield 52, 3) := by decide +kernel
theorem dX6_tryPair_55 : decode cX6_tryPair 55 = .ok (.getfield 88, 3) := by decide +kernel
theorem dX6_tryPair_58 : decode cX6_tryPair 58 = .ok (.if_icmp .ge 30, 3) := by decide +kernel
theorem dX6_tryPair_61 : decode cX6_tryPair 61 = .ok (.aload_n 0, 1) := by decide +kernel
theorem dX6_tryPair_62 : decode cX6_tryPair 62 = .ok (.getfield 23, 3) := by decide +kernel
theorem dX6_tryPair_65 : decode cX6_tryPair 65 = .ok (.iload 4, 2) := by decide +kernel
theorem dX6_tryPair_67 : decode cX6_tryPair 67 = .ok (.aaload, 1) := by decide +kernel
theorem dX6_tryPair_68 : decode cX6_tryPair 68 = .ok (.aload_n 0, 1) := by decide +kernel
theorem dX6_tryPair_69 : decode cX6_tryPair 69 = .ok (.getfield 26, 3) := by decide +kernel
theorem dX6_tryPair_72 : decode cX6_tryPair 72 = .ok (.iload 4, 2) := by decide +kernel
theorem dX6_tryPair_74 : decode cX6_tryPair 74 = .ok (.iaload, 1) := by decide +kernel
theorem dX6_tryPair_75 : decode cX6_tryPair 75 = .ok (.iconst 1, 1) := by decide +kernel
theorem dX6_tryPair_76 : decode cX6_tryPair 76 = .ok (.iadd, 1) := by decide +kernel
theorem dX6_tryPair_77 : decode cX6_tryPair 77 = .ok (.dup2, 1) := by decide +kernel
theorem dX6_tryPair_78 : decode cX6_tryPair 78 = .ok (.iaload, 1) := by decide +kernel
theorem dX6_tryPair_79 : decode cX6_tryPair 79 = .ok (.iconst 1, 1) := by decide +kernel
theorem dX6_tryPair_80 : decode cX6_tryPair 80 = .ok (.iadd, 1) := by decide +kernel
theorem dX6_tryPair_81 : decode cX6_tryPair 81 = .ok (.iastore, 1) := by decide +kernel
theorem dX6_tryPair_82 : decode cX6_tryPair 82 = .ok (.iinc 4 1, 3) := by decide +kernel
theorem dX6_tryPair_85 : decode cX6_tryPair 85 = .ok (.goto (-39), 3) := by decide +kernel
theorem dX6_tryPair_88 : decode cX6_tryPair 88 = .ok (.return_, 1) := by decide +kernel
noncomputable def FX6_tryPair (a0 : Nat) (p1 : Int32) (p2 : Int32) (p3 : Int32) : PP Unit := bd (FX6_comesTrue a0 p3) (fun x1 => if ((b2i x1)) = 0 then pu () else bd (gI a0 4) (fun x2 => bd (sI a0 4 (x2 + (1 : Int32))) (fun (_ : Unit) => bd (gI a0 5) (fun x3 => bd (sI a0 5 (x3 ||| ((1 : Int32) <<< (p1 &&& 31)))) (fun (_ : Unit) => bd (gI a0 6) (fun x4 => bd (sI a0 6 (x4 ||| ((1 : Int32) <<< (p2 &&& 31)))) (fun (_ : Unit) => bd (it (fun (s5 : Int32) => (bd (gI (rf (rf a0 7) 0) 10) (fun x6 => if x6 ≤ s5 then pu (Sum.inr ()) else bd (gd (ib s5 4 = true)) (fun (_ : Unit) => bd (aI (rf a0 9) 4 s5) (fun x8 => bd (aI (rf (rf a0 8) s5.toNatClampNeg) 5 (x8 + (1 : Int32))) (fun x9 => bd (uI (rf (rf a0 8) s5.toNatClampNeg) 5 (x8 + (1 : Int32)) (x9 + (1 : Int32))) (fun (_ : Unit) => lt (s5 + (1 : Int32)) (fun y10 => pu (Sum.inl y10))))))) : PP ((Int32) ⊕ (Unit)))) FU (0 : Int32)) (fun (v11 : Unit) => pu ()))))))))
set_option maxHeartbeats 4000000 in
set_option maxRecDepth 100000 in
theorem SX6_tryPair {l : Launch} {K : KK} {n : Nat} {hn : 270 ≤ n} (a0 : Nat) (p1 : Int32) (p2 : Int32) (p3 : Int32) (h0 : ob a0 6) : CT l K n 4 mX6_tryPair [.ref (K.2.1 + a0), .int p1, .int p2, .int p3] enU (FX6_tryPair a0 p1 p2 p3) := by
  refine CT.of2 (lv2 := [(0, .ref (K.2.1 + a0)), (1, .int p1), (2, .int p2), (3, .int p3)]) (by decide) rfl hn (Nat.le_of_ble_eq_true rfl) rfl (rp_id ?_)
  unfold FX6_tryPair
  refine rp_aload_n 0 dX6_tryPair_0 rfl ?_
  refine rp_iload_n 3 dX6_tryPair_1 rfl ?_
  refine rp_callVz [.int p3] (SX6_comesTrue (hn := hn) a0 p3 h0) cvX6_comesTrue (mw (i := 1090) (by decide +kernel)) (by omega) h0 (by decide) rfl rfl rfl (Nat.le_of_ble_eq_true rfl) dX6_tryPair_2 (fun x1 => ?_)
  refine rp_if_ne 9 dX6_tryPair_5 (by decide) ?_ ?_
  · refine rp_aload_n 0 dX6_tryPair_9 rfl ?_
    refine rp_dup dX6_tryPair_10 rfl ?_
    refine rp_getI fi_X6_43 h0 rfl dX6_tryPair_11 (fun x2 => ?_)
    refine rp_iconst (1 : Int32) dX6_tryPair_14 (by decide) ?_
    refine rp_iadd dX6_tryPair_15 ?_
    refine rp_putI fi_X6_43 fp_X6_4 h0 rfl dX6_tryPair_16 ?_
    refine rp_aload_n 0 dX6_tryPair_19 rfl ?_
    refine rp_dup dX6_tryPair_20 rfl ?_
    refine rp_getI fi_X6_46 h0 rfl dX6_tryPair_21 (fun x3 => ?_)
    refine rp_iconst (1 : Int32) dX6_tryPair_24 (by decide) ?_
    refine rp_iload_n 1 dX6_tryPair_25 rfl ?_
    refine rp_ishl dX6_tryPair_26 ?_
    refine rp_ior dX6_tryPair_27 ?_
    refine rp_putI fi_X6_46 fp_X6_5 h0 rfl dX6_tryPair_28 ?_
    refine rp_aload_n 0 dX6_tryPair_31 rfl ?_
    refine rp_dup dX6_tryPair_32 rfl ?_
    refine rp_getI fi_X6_49 h0 rfl dX6_tryPair_33 (fun x4 => ?_)
    refine rp_iconst (1 : Int32) dX6_tryPair_36 (by decide) ?_
    refine rp_iload_n 2 dX6_tryPair_37 rfl ?_
    refine rp_ishl dX6_tryPair_38 ?_
    refine rp_ior dX6_tryPair_39 ?_
    refine rp_putI fi_X6_49 fp_X6_6 h0 rfl dX6_tryPair_40 ?_
    refine rp_iconst (0 : Int32) dX6_tryPair_43 (by decide) ?_
    refine rp_istore [(4, .int (0 : Int32)), (0, .ref (K.2.1 + a0)), (1, .int p1), (2, .int p2), (3, .int p3)] dX6_tryPair_44 (by decide) rfl ?_
    refine rp_as ?_
    refine rp_join 88 (fun v11 => []) (fun _ => []) (fun v11 => ?_) (fun hX46_0 => ?_)
    · exact rp_pu (rp_vret rfl dX6_tryPair_88)
    refine rp_sub [1, 0] rfl (rp_it (fun (s5 : Int32) => [(0, .ref (K.2.1 + a0)), (4, .int s5)]) (fun N46 ih46 s5 => ?_) FU (0 : Int32))
    refine rp_iload 1 dX6_tryPair_46 rfl ?_
    refine rp_aload_n 0 dX6_tryPair_48 rfl ?_
    refine rp_getR fi_X6_29 h0 rfl dX6_tryPair_49 ?_
    refine rp_getR fi_X6_52 (tX6_7 h0) rfl dX6_tryPair_52 ?_
    refine rp_getI fi_X6_88 (tX4_0 (tX6_7 h0)) rfl dX6_tryPair_55 (fun x6 => ?_)
    refine rp_icmp_ge 88 dX6_tryPair_58 (by decide) ?_ ?_
    · exact rp_sub [] rfl (rp_puR (hX46_0 ()))
    · refine rp_aload_n 0 dX6_tryPair_61 rfl ?_
      refine rp_getR fi_X6_23 h0 rfl dX6_tryPair_62 ?_
      refine rp_iload 1 dX6_tryPair_65 rfl ?_
      refine rp_aald6 (tX6_8 h0) dX6_tryPair_67 (fun hb7 => ?_)
      refine rp_aload_n 0 dX6_tryPair_68 rfl ?_
      refine rp_getR fi_X6_26 h0 rfl dX6_tryPair_69 ?_
      refine rp_iload 1 dX6_tryPair_72 rfl ?_
      refine rp_iald (tX6_9 h0) dX6_tryPair_74 (fun x8 => ?_)
      refine rp_iconst (1 : Int32) dX6_tryPair_75 (by decide) ?_
      refine rp_iadd dX6_tryPair_76 ?_
      refine rp_dup2 dX6_tryPair_77 rfl rfl ?_
      refine rp_iald (arr6 (tX6_8 h0) hb7) dX6_tryPair_78 (fun x9 => ?_)
      refine rp_iconst (1 : Int32) dX6_tryPair_79 (by decide) ?_
      refine rp_iadd dX6_tryPair_80 ?_
      refine rp_iast (arr6 (tX6_8 h0) hb7) dX6_tryPair_81 ?_
      refine rp_iinc (fun y10 => [(4, .int y10), (0, .ref (K.2.1 + a0))]) 1 dX6_tryPair_82 rfl (by rfl) (by decide) (fun y10 => rfl) (fun y10 => ?_)
      refine rp_goto 46 dX6_tryPair_85 (by decide) ?_
      exact rp_sub [1, 0] rfl (ih46 y10)
  · exact rp_pu (rp_vret rfl dX6_tryPair_8)

theorem dX6_bestPlace_0 : decode cX6_bestPlace 0 = .ok (.iconst (-1), 1) := by decide +kernel
theorem dX6_bestPlace_1 : decode cX6_bestPlace 1 = .ok (.istore_n 1, 1) := by decide +kernel
theorem dX6_bestPlace_2 : decode cX6_bestPlace 2 = .ok (.aload_n 0, 1) := by decide +kernel
theorem dX6_bestPlace_3 : decode cX6_bestPlace 3 = .ok (.getfield 43, 3) := by decide +kernel
theorem dX6_bestPlace_6 : decode cX6_bestPlace 6 = .ok (.istore_n 2, 1) := by decide +kernel
theorem dX6_bestPlace_7 : decode cX6_bestPlace 7 = .ok (.iconst 0, 1) := by decide +kernel
theorem dX6_bestPlace_8 : decode cX6_bestPlace 8 = .ok (.istore_n 3, 1) := by decide +kernel
theorem dX6_bestPlace_9 : decode cX6_bestPlace 9 = .ok (.iload_n 3, 1) := by decide +kernel
theorem dX6_bestPlace_10 : decode cX6_bestPlace 10 = .ok (.aload_n 0, 1) := by decide +kernel
theorem dX6_bestPlace_11 : decode cX6_bestPlace 11 = .ok (.getfield 29, 3) := by decide +kernel
theorem dX6_bestPlace_14 : decode cX6_bestPlace 14 = .ok (.getfield 52, 3) := by decide +kernel
theorem dX6_bestPlace_17 : decode cX6_bestPlace 17 = .ok (.getfield 88, 3) := by decide +kernel
theorem dX6_bestPlace_20 : decode cX6_bestPlace 20 = .ok (.if_icmp .ge 54, 3) := by decide +kernel
theorem dX6_bestPlace_23 : decode cX6_bestPlace 23 = .ok (.iconst 0, 1) := by decide +kernel
theorem dX6_bestPlace_24 : decode cX6_bestPlace 24 = .ok (.istore 4, 2) := by decide +kernel
theorem dX6_bestPlace_26 : decode cX6_bestPlace 26 = .ok (.iconst 0, 1) := by decide +kernel
theorem dX6_bestPlace_27 : decode cX6_bestPlace 27 = .ok (.istore 5, 2) := by decide +kernel
theorem dX6_bestPlace_29 : decode cX6_bestPlace 29 = .ok (.iload 5, 2) := by decide +kernel
theorem dX6_bestPlace_31 : decode cX6_bestPlace 31 = .ok (.iconst 4, 1) := by decide +kernel
theorem dX6_bestPlace_32 : decode cX6_bestPlace 32 = .ok (.if_icmp .gt 25, 3) := by decide +kernel
theorem dX6_bestPlace_35 : decode cX6_bestPlace 35 = .ok (.iload 4, 2) := by decide +kernel
theorem dX6_bestPlace_37 : decode cX6_bestPlace 37 = .ok (.aload_n 0, 1) := by decide +kernel
theorem dX6_bestPlace_38 : decode cX6_bestPlace 38 = .ok (.getfield 23, 3) := by decide +kernel
theorem dX6_bestPlace_41 : decode cX6_bestPlace 41 = .ok (.iload_n 3, 1) := by decide +kernel
theorem dX6_bestPlace_42 : decode cX6_bestPlace 42 = .ok (.aaload, 1) := by decide +kernel
theorem dX6_bestPlace_43 : decode cX6_bestPlace 43 = .ok (.iload 5, 2) := by decide +kernel
theorem dX6_bestPlace_45 : decode cX6_bestPlace 45 = .ok (.iaload, 1) := by decide +kernel
theorem dX6_bestPlace_46 : decode cX6_bestPlace 46 = .ok (.invokestatic 90, 3) := by decide +kernel
theorem dX6_bestPlace_49 : decode cX6_bestPlace 49 = .ok (.istore 4, 2) := by decide +kernel
theorem dX6_bestPlace_51 : decode cX6_bestPlace 51 = .ok (.iinc 5 1, 3) := by decide +kernel
theorem dX6_bestPlace_54 : decode cX6_bestPlace 54 = .ok (.goto (-25), 3) := by decide +kernel
theorem dX6_bestPlace_57 : decode cX6_bestPlace 57 = .ok (.iload 4, 2) := by decide +kernel
theorem dX6_bestPlace_59 : decode cX6_bestPlace 59 = .ok (.iload_n 2, 1) := by decide +kernel
theorem dX6_bestPlace_60 : decode cX6_bestPlace 60 = .ok (.if_icmp .ge 8, 3) := by decide +kernel
theorem dX6_bestPlace_63 : decode cX6_bestPlace 63 = .ok (.iload 4, 2) := by decide +kernel
theorem dX6_bestPlace_65 : decode cX6_bestPlace 65 = .ok (.istore_n 2, 1) := by decide +kernel
theorem dX6_bestPlace_66 : decode cX6_bestPlace 66 = .ok (.iload_n 3, 1) := by decide +kernel
theorem dX6_bestPlace_67 : decode cX6_bestPlace 67 = .ok (.istore_n 1, 1) := by decide +kernel
theorem dX6_bestPlace_68 : decode cX6_bestPlace 68 = .ok (.iinc 3 1, 3) := by decide +kernel
theorem dX6_bestPlace_71 : decode cX6_bestPlace 71 = .ok (.goto (-62), 3) := by decide +kernel
theorem dX6_bestPlace_74 : decode cX6_bestPlace 74 = .ok (.iload_n 1, 1) := by decide +kernel
theorem dX6_bestPlace_75 : decode cX6_bestPlace 75 = .ok (.ireturn, 1) := by decide +kernel
noncomputable def FX6_bestPlace (a0 : Nat) : PP Int32 := bd (gI a0 4) (fun x1 => bd (it (fun (s2 : Int32 × Int32 × Int32) => (bd (gI (rf (rf a0 7) 0) 10) (fun x3 => if x3 ≤ s2.2.2 then pu (Sum.inr s2.1) else bd (it (fun (s4 : Int32 × Int32) => (if (4 : Int32) < s4.2 then pu (Sum.inr s4.1) else bd (gd (ib s2.2.2 4 = true)) (fun (_ : Unit) => bd (aI (rf (rf a0 8) s2.2.2.toNatClampNeg) 5 s4.2) (fun x6 => lt ((if s4.1 < x6 then x6 else s4.1)) (fun y7 => lt (s4.2 + (1 : Int32)) (fun y8 => pu (Sum.inl (y7, y8)))))) : PP ((Int32 × Int32) ⊕ (Int32)))) FU ((0 : Int32), (0 : Int32))) (fun (v9 : Int32) => bd (if s2.2.1 ≤ v9 then pu (s2.1, s2.2.1) else pu (s2.2.2, v9) : PP (Int32 × Int32)) (fun (v10 : Int32 × Int32) => lt (s2.2.2 + (1 : Int32)) (fun y11 => pu (Sum.inl (v10.1, v10.2, y11)))))) : PP ((Int32 × Int32 × Int32) ⊕ (Int32)))) FU ((-1 : Int32), x1, (0 : Int32))) (fun (v12 : Int32) => pu v12))
set_option maxHeartbeats 4000000 in
set_option maxRecDepth 100000 in
theorem SX6_bestPlace {l : Launch} {K : KK} {n : Nat} {hn : 270 ≤ n} (a0 : Nat) (h0 : ob a0 6) : CT l K n 1 mX6_bestPlace [.ref (K.2.1 + a0)] enI (FX6_bestPlace a0) := by
  refine CT.of2 (lv2 := [(0, .ref (K.2.1 + a0))]) (by decide) rfl hn (Nat.le_of_ble_eq_true rfl) rfl (rp_id ?_)
  unfold FX6_bestPlace
  refine rp_iconst (-1 : Int32) dX6_bestPlace_0 (by decide) ?_
  refine rp_istore_n [(1, .int (-1 : Int32)), (0, .ref (K.2.1 + a0))] dX6_bestPlace_1 (by decide) rfl ?_
  refine rp_aload_n 1 dX6_bestPlace_2 rfl ?_
  refine rp_getI fi_X6_43 h0 rfl dX6_bestPlace_3 (fun x1 => ?_)
  refine rp_istore_n [(2, .int x1), (1, .int (-1 : Int32)), (0, .ref (K.2.1 + a0))] dX6_bestPlace_6 (by decide) rfl ?_
  refine rp_iconst (0 : Int32) dX6_bestPlace_7 (by decide) ?_
  refine rp_istore_n [(3, .int (0 : Int32)), (2, .int x1), (1, .int (-1 : Int32)), (0, .ref (K.2.1 + a0))] dX6_bestPlace_8 (by decide) rfl ?_
  refine rp_as ?_
  refine rp_join 74 (fun v12 => [(1, .int v12)]) (fun _ => []) (fun v12 => ?_) (fun hX9_0 => ?_)
  · refine rp_iload_n 0 dX6_bestPlace_74 rfl ?_
    exact rp_pu (rp_iret rfl dX6_bestPlace_75)
  refine rp_sub [3, 2, 1, 0] rfl (rp_it (fun (s2 : Int32 × Int32 × Int32) => [(0, .ref (K.2.1 + a0)), (1, .int s2.1), (2, .int s2.2.1), (3, .int s2.2.2)]) (fun N9 ih9 s2 => ?_) FU ((-1 : Int32), x1, (0 : Int32)))
  refine rp_iload_n 3 dX6_bestPlace_9 rfl ?_
  refine rp_aload_n 0 dX6_bestPlace_10 rfl ?_
  refine rp_getR fi_X6_29 h0 rfl dX6_bestPlace_11 ?_
  refine rp_getR fi_X6_52 (tX6_7 h0) rfl dX6_bestPlace_14 ?_
  refine rp_getI fi_X6_88 (tX4_0 (tX6_7 h0)) rfl dX6_bestPlace_17 (fun x3 => ?_)
  refine rp_icmp_ge 74 dX6_bestPlace_20 (by decide) ?_ ?_
  · exact rp_sub [1] rfl (rp_puR (hX9_0 s2.1))
  · refine rp_iconst (0 : Int32) dX6_bestPlace_23 (by decide) ?_
    refine rp_istore [(4, .int (0 : Int32)), (0, .ref (K.2.1 + a0)), (1, .int s2.1), (2, .int s2.2.1), (3, .int s2.2.2)] dX6_bestPlace_24 (by decide) rfl ?_
    refine rp_iconst (0 : Int32) dX6_bestPlace_26 (by decide) ?_
    refine rp_istore [(5, .int (0 : Int32)), (4, .int (0 : Int32)), (0, .ref (K.2.1 + a0)), (1, .int s2.1), (2, .int s2.2.1), (3, .int s2.2.2)] dX6_bestPlace_27 (by decide) rfl ?_
    refine rp_as ?_
    refine rp_join 57 (fun v9 => [(0, .ref (K.2.1 + a0)), (1, .int s2.1), (2, .int s2.2.1), (3, .int s2.2.2), (4, .int v9)]) (fun _ => []) (fun v9 => ?_) (fun hX29_0 => ?_)
    · refine rp_iload 4 dX6_bestPlace_57 rfl ?_
      refine rp_iload_n 2 dX6_bestPlace_59 rfl ?_
      refine rp_as ?_
      refine rp_join 68 (fun (v10 : Int32 × Int32) => [(0, .ref (K.2.1 + a0)), (1, .int v10.1), (2, .int v10.2), (3, .int s2.2.2)]) (fun v10 => []) (fun v10 => ?_) (fun hJ68 => ?_)
      · refine rp_iinc (fun y11 => [(3, .int y11), (0, .ref (K.2.1 + a0)), (1, .int v10.1), (2, .int v10.2)]) 3 dX6_bestPlace_68 rfl (by rfl) (by decide) (fun y11 => rfl) (fun y11 => ?_)
        refine rp_goto 9 dX6_bestPlace_71 (by decide) ?_
        exact rp_sub [1, 2, 3, 0] rfl (ih9 (v10.1, v10.2, y11))
      refine rp_icmp_ge 68 dX6_bestPlace_60 (by decide) ?_ ?_
      · exact rp_sub [0, 1, 2, 3] rfl (rp_pu (hJ68 (s2.1, s2.2.1)))
      · refine rp_iload 4 dX6_bestPlace_63 rfl ?_
        refine rp_istore_n [(2, .int v9), (0, .ref (K.2.1 + a0)), (1, .int s2.1), (3, .int s2.2.2), (4, .int v9)] dX6_bestPlace_65 (by decide) rfl ?_
        refine rp_iload_n 3 dX6_bestPlace_66 rfl ?_
        refine rp_istore_n [(1, .int s2.2.2), (2, .int v9), (0, .ref (K.2.1 + a0)), (3, .int s2.2.2), (4, .int v9)] dX6_bestPlace_67 (by decide) rfl ?_
        exact rp_sub [2, 0, 1, 3] rfl (rp_pu (hJ68 (s2.2.2, v9)))
    refine rp_sub [2, 3, 4, 5, 1, 0] rfl (rp_it (fun (s4 : Int32 × Int32) => [(0, .ref (K.2.1 + a0)), (1, .int s2.1), (2, .int s2.2.1), (3, .int s2.2.2), (4, .int s4.1), (5, .int s4.2)]) (fun N29 ih29 s4 => ?_) FU ((0 : Int32), (0 : Int32)))
    refine rp_iload 5 dX6_bestPlace_29 rfl ?_
    refine rp_iconst (4 : Int32) dX6_bestPlace_31 (by decide) ?_
    refine rp_icmp_gt 57 dX6_bestPlace_32 (by decide) ?_ ?_
    · exact rp_sub [0, 1, 2, 3, 4] rfl (rp_puR (hX29_0 s4.1))
    · refine rp_iload 4 dX6_bestPlace_35 rfl ?_
      refine rp_aload_n 0 dX6_bestPlace_37 rfl ?_
      refine rp_getR fi_X6_23 h0 rfl dX6_bestPlace_38 ?_
      refine rp_iload_n 3 dX6_bestPlace_41 rfl ?_
      refine rp_aald6 (tX6_8 h0) dX6_bestPlace_42 (fun hb5 => ?_)
      refine rp_iload 5 dX6_bestPlace_43 rfl ?_
      refine rp_iald (arr6 (tX6_8 h0) hb5) dX6_bestPlace_45 (fun x6 => ?_)
      refine rp_mmax (mw (i := 1094) (by decide +kernel)) (by omega) (Nat.le_of_ble_eq_true rfl) dX6_bestPlace_46 ?_
      refine rp_lti (fun y7 => ?_)
      refine rp_istore [(4, .int y7), (0, .ref (K.2.1 + a0)), (1, .int s2.1), (2, .int s2.2.1), (3, .int s2.2.2), (5, .int s4.2)] dX6_bestPlace_49 (by decide) rfl ?_
      refine rp_iinc (fun y8 => [(5, .int y8), (4, .int y7), (0, .ref (K.2.1 + a0)), (1, .int s2.1), (2, .int s2.2.1), (3, .int s2.2.2)]) 5 dX6_bestPlace_51 rfl (by rfl) (by decide) (fun y8 => rfl) (fun y8 => ?_)
      refine rp_goto 29 dX6_bestPlace_54 (by decide) ?_
      exact rp_sub [2, 3, 4, 5, 1, 0] rfl (ih29 (y7, y8))

theorem dX7_clear_0 : decode cX7_clear 0 = .ok (.aload_n 0, 1) := by decide +kernel
theorem dX7_clear_1 : decode cX7_clear 1 = .ok (.iconst 0, 1) := by decide +kernel
theorem dX7_clear_2 : decode cX7_clear 2 = .ok (.putfield 44, 3) := by decide +kernel
theorem dX7_clear_5 : decode cX7_clear 5 = .ok (.aload_n 0, 1) := by decide +kernel
theorem dX7_clear_6 : decode cX7_clear 6 = .ok (.iconst 0, 1) := by decide +kernel
theorem dX7_clear_7 : decode cX7_clear 7 = .ok (.putfield 48, 3) := by decide +kernel
theorem dX7_clear_10 : decode cX7_clear 10 = .ok (.aload_n 0, 1) := by decide +kernel
theorem dX7_clear_11 : decode cX7_clear 11 = .ok (.iconst 0, 1) := by decide +kernel
theorem dX7_clear_12 : decode cX7_clear 12 = .ok (.putfield 51, 3) := by decide +kernel
theorem dX7_clear_15 : decode cX7_clear 15 = .ok (.aload_n 0, 1) := by decide +kernel
theorem dX7_clear_16 : decode cX7_clear 16 = .ok (.getfield 40, 3) := by decide +kernel
theorem dX7_clear_19 : decode cX7_clear 19 = .ok (.invokevirtual 54, 3) := by decide +kernel
theorem dX7_clear_22 : decode cX7_clear 22 = .ok (.return_, 1) := by decide +kernel
noncomputable def FX7_clear (a0 : Nat) : PP Unit := bd (sI a0 9 (0 : Int32)) (fun (_ : Unit) => bd (sI a0 10 (0 : Int32)) (fun (_ : Unit) => bd (sI a0 11 (0 : Int32)) (fun (_ : Unit) => bd (FX0_setPlain (rf a0 8)) (fun (_ : Unit) => pu ()))))
set_option maxHeartbeats 4000000 in
set_option maxRecDepth 100000 in
theorem SX7_clear {l : Launch} {K : KK} {n : Nat} {hn : 270 ≤ n} (a0 : Nat) (h0 : ob a0 7) : CT l K n 2 mX7_clear [.ref (K.2.1 + a0)] enU (FX7_clear a0) := by
  refine CT.of2 (lv2 := [(0, .ref (K.2.1 + a0))]) (by decide) rfl hn (Nat.le_of_ble_eq_true rfl) rfl (rp_id ?_)
  unfold FX7_clear
  refine rp_aload_n 0 dX7_clear_0 rfl ?_
  refine rp_iconst (0 : Int32) dX7_clear_1 (by decide) ?_
  refine rp_putI fi_X7_44 fp_X7_9 h0 rfl dX7_clear_2 ?_
  refine rp_aload_n 0 dX7_clear_5 rfl ?_
  refine rp_iconst (0 : Int32) dX7_clear_6 (by decide) ?_
  refine rp_putI fi_X7_48 fp_X7_10 h0 rfl dX7_clear_7 ?_
  refine rp_aload_n 0 dX7_clear_10 rfl ?_
  refine rp_iconst (0 : Int32) dX7_clear_11 (by decide) ?_
  refine rp_putI fi_X7_51 fp_X7_11 h0 rfl dX7_clear_12 ?_
  refine rp_aload_n 0 dX7_clear_15 rfl ?_
  refine rp_getR fi_X7_40 h0 rfl dX7_clear_16 ?_
  refine rp_callVv [] (SX0_setPlain (hn := hn) (rf a0 8) (tX7_8 h0)) cvX0_setPlain (mw (i := 430) (by decide +kernel)) (by omega) (tX7_8 h0) (by decide) rfl rfl rfl (Nat.le_of_ble_eq_true rfl) dX7_clear_19 (fun x1 => ?_)
  exact rp_pu (rp_vret rfl dX7_clear_22)

theorem dX7_copyFrom_0 : decode cX7_copyFrom 0 = .ok (.aload_n 1, 1) := by decide +kernel
theorem dX7_copyFrom_1 : decode cX7_copyFrom 1 = .ok (.getfield 9, 3) := by decide +kernel
theorem dX7_copyFrom_4 : decode cX7_copyFrom 4 = .ok (.iconst 0, 1) := by decide +kernel
theorem dX7_copyFrom_5 : decode cX7_copyFrom 5 = .ok (.aload_n 0, 1) := by decide +kernel
theorem dX7_copyFrom_6 : decode cX7_copyFrom 6 = .ok (.getfield 9, 3) := by decide +kernel
theorem dX7_copyFrom_9 : decode cX7_copyFrom 9 = .ok (.iconst 0, 1) := by decide +kernel
theorem dX7_copyFrom_10 : decode cX7_copyFrom 10 = .ok (.iconst 5, 1) := by decide +kernel
theorem dX7_copyFrom_11 : decode cX7_copyFrom 11 = .ok (.invokestatic 57, 3) := by decide +kernel
theorem dX7_copyFrom_14 : decode cX7_copyFrom 14 = .ok (.aload_n 1, 1) := by decide +kernel
theorem dX7_copyFrom_15 : decode cX7_copyFrom 15 = .ok (.getfield 15, 3) := by decide +kernel
theorem dX7_copyFrom_18 : decode cX7_copyFrom 18 = .ok (.iconst 0, 1) := by decide +kernel
theorem dX7_copyFrom_19 : decode cX7_copyFrom 19 = .ok (.aload_n 0, 1) := by decide +kernel
theorem dX7_copyFrom_20 : decode cX7_copyFrom 20 = .ok (.getfield 15, 3) := by decide +kernel
theorem dX7_copyFrom_23 : decode cX7_copyFrom 23 = .ok (.iconst 0, 1) := by decide +kernel
theorem dX7_copyFrom_24 : decode cX7_copyFrom 24 = .ok (.iconst 4, 1) := by decide +kernel
theorem dX7_copyFrom_25 : decode cX7_copyFrom 25 = .ok (.invokestatic 57, 3) := by decide +kernel
theorem dX7_copyFrom_28 : decode cX7_copyFrom 28 = .ok (.aload_n 1, 1) := by decide +kernel
theorem dX7_copyFrom_29 : decode cX7_copyFrom 29 = .ok (.getfield 18, 3) := by decide +kernel
theorem dX7_copyFrom_32 : decode cX7_copyFrom 32 = .ok (.iconst 0, 1) := by decide +kernel
theorem dX7_copyFrom_33 : decode cX7_copyFrom 33 = .ok (.aload_n 0, 1) := by decide +kernel
theorem dX7_copyFrom_34 : decode cX7_copyFrom 34 = .ok (.getfield 18, 3) := by decide +kernel
theorem dX7_copyFrom_37 : decode cX7_copyFrom 37 = .ok (.iconst 0, 1) := by decide +kernel
theorem dX7_copyFrom_38 : decode cX7_copyFrom 38 = .ok (.bipush 6, 2) := by decide +kernel
theorem dX7_copyFrom_40 : decode cX7_copyFrom 40 = .ok (.invokestatic 57, 3) := by decide +kernel
theorem dX7_copyFrom_43 : decode cX7_copyFrom 43 = .ok (.aload_n 1, 1) := by decide +kernel
theorem dX7_copyFrom_44 : decode cX7_copyFrom 44 = .ok (.getfield 21, 3) := by decide +kernel
theorem dX7_copyFrom_47 : decode cX7_copyFrom 47 = .ok (.iconst 0, 1) := by decide +kernel
theorem dX7_copyFrom_48 : decode cX7_copyFrom 48 = .ok (.aload_n 0, 1) := by decide +kernel
theorem dX7_copyFrom_49 : decode cX7_copyFrom 49 = .ok (.getfield 21, 3) := by decide +kernel
theorem dX7_copyFrom_52 : decode cX7_copyFrom 52 = .ok (.iconst 0, 1) := by decide +kernel
theorem dX7_copyFrom_53 : decode cX7_copyFrom 53 = .ok (.iconst 5, 1) := by decide +kernel
theorem dX7_copyFrom_54 : decode cX7_copyFrom 54 = .ok (.invokestatic 57, 3) := by decide +kernel
theorem dX7_copyFrom_57 : decode cX7_copyFrom 57 = .ok (.aload_n 1, 1) := by decide +kernel
theorem dX7_copyFrom_58 : decode cX7_copyFrom 58 = .ok (.getfield 25, 3) := by decide +kernel
theorem dX7_copyFrom_61 : decode cX7_copyFrom 61 = .ok (.iconst 0, 1) := by decide +kernel
theorem dX7_copyFrom_62 : decode cX7_copyFrom 62 = .ok (.aload_n 0, 1) := by decide +kernel
theorem dX7_copyFrom_63 : decode cX7_copyFrom 63 = .ok (.getfield 25, 3) := by decide +kernel
theorem dX7_copyFrom_66 : decode cX7_copyFrom 66 = .ok (.iconst 0, 1) := by decide +kernel
theorem dX7_copyFrom_67 : decode cX7_copyFrom 67 = .ok (.iconst 5, 1) := by decide +kernel
theorem dX7_copyFrom_68 : decode cX7_copyFrom 68 = .ok (.invokestatic 57, 3) := by decide +kernel
theorem dX7_copyFrom_71 : decode cX7_copyFrom 71 = .ok (.aload_n 1, 1) := by decide +kernel
theorem dX7_copyFrom_72 : decode cX7_copyFrom 72 = .ok (.getfield 28, 3) := by decide +kernel
theorem dX7_copyFrom_75 : decode cX7_copyFrom 75 = .ok (.iconst 0, 1) := by decide +kernel
theorem dX7_copyFrom_76 : decode cX7_copyFrom 76 = .ok (.aload_n 0, 1) := by decide +kernel
theorem dX7_copyFrom_77 : decode cX7_copyFrom 77 = .ok (.getfield 28, 3) := by decide +kernel
theorem dX7_copyFrom_80 : decode cX7_copyFrom 80 = .ok (.iconst 0, 1) := by decide +kernel
theorem dX7_copyFrom_81 : decode cX7_copyFrom 81 = .ok (.iconst 4, 1) := by decide +kernel
theorem dX7_copyFrom_82 : decode cX7_copyFrom 82 = .ok (.invokestatic 57, 3) := by decide +kernel
theorem dX7_copyFrom_85 : decode cX7_copyFrom 85 = .ok (.aload_n 1, 1) := by decide +kernel
theorem dX7_copyFrom_86 : decode cX7_copyFrom 86 = .ok (.getfield 31, 3) := by decide +kernel
theorem dX7_copyFrom_89 : decode cX7_copyFrom 89 = .ok (.iconst 0, 1) := by decide +kernel
theorem dX7_copyFrom_90 : decode cX7_copyFrom 90 = .ok (.aload_n 0, 1) := by decide +kernel
theorem dX7_copyFrom_91 : decode cX7_copyFrom 91 = .ok (.getfield 31, 3) := by decide +kernel
theorem dX7_copyFrom_94 : decode cX7_copyFrom 94 = .ok (.iconst 0, 1) := by decide +kernel
theorem dX7_copyFrom_95 : decode cX7_copyFrom 95 = .ok (.bipush 6, 2) := by decide +kernel
theorem dX7_copyFrom_97 : decode cX7_copyFrom 97 = .ok (.invokestatic 57, 3) := by decide +kernel
theorem dX7_copyFrom_100 : decode cX7_copyFrom 100 = .ok (.aload_n 1, 1) := by decide +kernel
theorem dX7_copyFrom_101 : decode cX7_copyFrom 101 = .ok (.getfield 34, 3) := by decide +kernel
theorem dX7_copyFrom_104 : decode cX7_copyFrom 104 = .ok (.iconst 0, 1) := by decide +kernel
theorem dX7_copyFrom_105 : decode cX7_copyFrom 105 = .ok (.aload_n 0, 1) := by decide +kernel
theorem dX7_copyFrom_106 : decode cX7_copyFrom 106 = .ok (.getfield 34, 3) := by decide +kernel
theorem dX7_copyFrom_109 : decode cX7_copyFrom 109 = .ok (.iconst 0, 1) := by decide +kernel
theorem dX7_copyFrom_110 : decode cX7_copyFrom 110 = .ok (.bipush 6, 2) := by decide +kernel
theorem dX7_copyFrom_112 : decode cX7_copyFrom 112 = .ok (.invokestatic 57, 3) := by decide +kernel
theorem dX7_copyFrom_115 : decode cX7_copyFrom 115 = .ok (.aload_n 0, 1) := by decide +kernel
theorem dX7_copyFrom_116 : decode cX7_copyFrom 116 = .ok (.getfield 40, 3) := by decide +kernel
theorem dX7_copyFrom_119 : decode cX7_copyFrom 119 = .ok (.aload_n 1, 1) := by decide +kernel
theorem dX7_copyFrom_120 : decode cX7_copyFrom 120 = .ok (.getfield 40, 3) := by decide +kernel
theorem dX7_copyFrom_123 : decode cX7_copyFrom 123 = .ok (.invokevirtual 63, 3) := by decide +kernel
theorem dX7_copyFrom_126 : decode cX7_copyFrom 126 = .ok (.aload_n 0, 1) := by decide +kernel
theorem dX7_copyFrom_127 : decode cX7_copyFrom 127 = .ok (.aload_n 1, 1) := by decide +kernel
theorem dX7_copyFrom_128 : decode cX7_copyFrom 128 = .ok (.getfield 44, 3) := by decide +kernel
theorem dX7_copyFrom_131 : decode cX7_copyFrom 131 = .ok (.putfield 44, 3) := by decide +kernel
theorem dX7_copyFrom_134 : decode cX7_copyFrom 134 = .ok (.aload_n 0, 1) := by decide +kernel
theorem dX7_copyFrom_135 : decode cX7_copyFrom 135 = .ok (.aload_n 1, 1) := by decide +kernel
theorem dX7_copyFrom_136 : decode cX7_copyFrom 136 = .ok (.getfield 48, 3) := by decide +kernel
theorem dX7_copyFrom_139 : decode cX7_copyFrom 139 = .ok (.putfield 48, 3) := by decide +kernel
theorem dX7_copyFrom_142 : decode cX7_copyFrom 142 = .ok (.aload_n 0, 1) := by decide +kernel
theorem dX7_copyFrom_143 : decode cX7_copyFrom 143 = .ok (.aload_n 1, 1) := by decide +kernel
theorem dX7_copyFrom_144 : decode cX7_copyFrom 144 = .ok (.getfield 51, 3) := by decide +kernel
theorem dX7_copyFrom_147 : decode cX7_copyFrom 147 = .ok (.putfield 51, 3) := by decide +kernel
theorem dX7_copyFrom_150 : decode cX7_copyFrom 150 = .ok (.return_, 1) := by decide +kernel
noncomputable def FX7_copyFrom (a0 : Nat) (p1 : Nat) : PP Unit := bd (cpL (rf p1 0) (rf a0 0) 5) (fun (_ : Unit) => bd (cpL (rf p1 1) (rf a0 1) 4) (fun (_ : Unit) => bd (cpL (rf p1 2) (rf a0 2) 6) (fun (_ : Unit) => bd (cpI (rf p1 3) (rf a0 3) 5) (fun (_ : Unit) => bd (cpI (rf p1 4) (rf a0 4) 5) (fun (_ : Unit) => bd (cpI (rf p1 5) (rf a0 5) 4) (fun (_ : Unit) => bd (cpI (rf p1 6) (rf a0 6) 6) (fun (_ : Unit) => bd (cpI (rf p1 7) (rf a0 7) 6) (fun (_ : Unit) => bd (FX0_copyFrom (rf a0 8) (rf p1 8)) (fun (_ : Unit) => bd (gI p1 9) (fun x2 => bd (sI a0 9 x2) (fun (_ : Unit) => bd (gI p1 10) (fun x3 => bd (sI a0 10 x3) (fun (_ : Unit) => bd (gI p1 11) (fun x4 => bd (sI a0 11 x4) (fun (_ : Unit) => pu ())))))))))))))))
set_option maxHeartbeats 4000000 in
set_option maxRecDepth 100000 in
theorem SX7_copyFrom {l : Launch} {K : KK} {n : Nat} {hn : 270 ≤ n} (a0 : Nat) (p1 : Nat) (h0 : ob a0 7) (h_p1 : ob p1 7) : CT l K n 2 mX7_copyFrom [.ref (K.2.1 + a0), .ref (K.2.1 + p1)] enU (FX7_copyFrom a0 p1) := by
  refine CT.of2 (lv2 := [(0, .ref (K.2.1 + a0)), (1, .ref (K.2.1 + p1))]) (by decide) rfl hn (Nat.le_of_ble_eq_true rfl) rfl (rp_id ?_)
  unfold FX7_copyFrom
  refine rp_aload_n 1 dX7_copyFrom_0 rfl ?_
  refine rp_getR fi_X7_9 h_p1 rfl dX7_copyFrom_1 ?_
  refine rp_iconst (0 : Int32) dX7_copyFrom_4 (by decide) ?_
  refine rp_aload_n 0 dX7_copyFrom_5 rfl ?_
  refine rp_getR fi_X7_9 h0 rfl dX7_copyFrom_6 ?_
  refine rp_iconst (0 : Int32) dX7_copyFrom_9 (by decide) ?_
  refine rp_iconst (5 : Int32) dX7_copyFrom_10 (by decide) ?_
  refine rp_cpL (n0 := 5) (n1 := 5) 5 (tX7_0 h_p1) (tX7_0 h0) (by decide) (by decide) (by decide) (mw (i := 723) (by decide +kernel)) (by omega) (Nat.le_of_ble_eq_true rfl) dX7_copyFrom_11 ?_
  refine rp_aload_n 1 dX7_copyFrom_14 rfl ?_
  refine rp_getR fi_X7_15 h_p1 rfl dX7_copyFrom_15 ?_
  refine rp_iconst (0 : Int32) dX7_copyFrom_18 (by decide) ?_
  refine rp_aload_n 0 dX7_copyFrom_19 rfl ?_
  refine rp_getR fi_X7_15 h0 rfl dX7_copyFrom_20 ?_
  refine rp_iconst (0 : Int32) dX7_copyFrom_23 (by decide) ?_
  refine rp_iconst (4 : Int32) dX7_copyFrom_24 (by decide) ?_
  refine rp_cpL (n0 := 4) (n1 := 4) 4 (tX7_1 h_p1) (tX7_1 h0) (by decide) (by decide) (by decide) (mw (i := 723) (by decide +kernel)) (by omega) (Nat.le_of_ble_eq_true rfl) dX7_copyFrom_25 ?_
  refine rp_aload_n 1 dX7_copyFrom_28 rfl ?_
  refine rp_getR fi_X7_18 h_p1 rfl dX7_copyFrom_29 ?_
  refine rp_iconst (0 : Int32) dX7_copyFrom_32 (by decide) ?_
  refine rp_aload_n 0 dX7_copyFrom_33 rfl ?_
  refine rp_getR fi_X7_18 h0 rfl dX7_copyFrom_34 ?_
  refine rp_iconst (0 : Int32) dX7_copyFrom_37 (by decide) ?_
  refine rp_bipush (6 : Int32) dX7_copyFrom_38 (by decide) ?_
  refine rp_cpL (n0 := 6) (n1 := 6) 6 (tX7_2 h_p1) (tX7_2 h0) (by decide) (by decide) (by decide) (mw (i := 723) (by decide +kernel)) (by omega) (Nat.le_of_ble_eq_true rfl) dX7_copyFrom_40 ?_
  refine rp_aload_n 1 dX7_copyFrom_43 rfl ?_
  refine rp_getR fi_X7_21 h_p1 rfl dX7_copyFrom_44 ?_
  refine rp_iconst (0 : Int32) dX7_copyFrom_47 (by decide) ?_
  refine rp_aload_n 0 dX7_copyFrom_48 rfl ?_
  refine rp_getR fi_X7_21 h0 rfl dX7_copyFrom_49 ?_
  refine rp_iconst (0 : Int32) dX7_copyFrom_52 (by decide) ?_
  refine rp_iconst (5 : Int32) dX7_copyFrom_53 (by decide) ?_
  refine rp_cpI (n0 := 5) (n1 := 5) 5 (tX7_3 h_p1) (tX7_3 h0) (by decide) (by decide) (by decide) (mw (i := 723) (by decide +kernel)) (by omega) (Nat.le_of_ble_eq_true rfl) dX7_copyFrom_54 ?_
  refine rp_aload_n 1 dX7_copyFrom_57 rfl ?_
  refine rp_getR fi_X7_25 h_p1 rfl dX7_copyFrom_58 ?_
  refine rp_iconst (0 : Int32) dX7_copyFrom_61 (by decide) ?_
  refine rp_aload_n 0 dX7_copyFrom_62 rfl ?_
  refine rp_getR fi_X7_25 h0 rfl dX7_copyFrom_63 ?_
  refine rp_iconst (0 : Int32) dX7_copyFrom_66 (by decide) ?_
  refine rp_iconst (5 : Int32) dX7_copyFrom_67 (by decide) ?_
  refine rp_cpI (n0 := 5) (n1 := 5) 5 (tX7_4 h_p1) (tX7_4 h0) (by decide) (by decide) (by decide) (mw (i := 723) (by decide +kernel)) (by omega) (Nat.le_of_ble_eq_true rfl) dX7_copyFrom_68 ?_
  refine rp_aload_n 1 dX7_copyFrom_71 rfl ?_
  refine rp_getR fi_X7_28 h_p1 rfl dX7_copyFrom_72 ?_
  refine rp_iconst (0 : Int32) dX7_copyFrom_75 (by decide) ?_
  refine rp_aload_n 0 dX7_copyFrom_76 rfl ?_
  refine rp_getR fi_X7_28 h0 rfl dX7_copyFrom_77 ?_
  refine rp_iconst (0 : Int32) dX7_copyFrom_80 (by decide) ?_
  refine rp_iconst (4 : Int32) dX7_copyFrom_81 (by decide) ?_
  refine rp_cpI (n0 := 4) (n1 := 4) 4 (tX7_5 h_p1) (tX7_5 h0) (by decide) (by decide) (by decide) (mw (i := 723) (by decide +kernel)) (by omega) (Nat.le_of_ble_eq_true rfl) dX7_copyFrom_82 ?_
  refine rp_aload_n 1 dX7_copyFrom_85 rfl ?_
  refine rp_getR fi_X7_31 h_p1 rfl dX7_copyFrom_86 ?_
  refine rp_iconst (0 : Int32) dX7_copyFrom_89 (by decide) ?_
  refine rp_aload_n 0 dX7_copyFrom_90 rfl ?_
  refine rp_getR fi_X7_31 h0 rfl dX7_copyFrom_91 ?_
  refine rp_iconst (0 : Int32) dX7_copyFrom_94 (by decide) ?_
  refine rp_bipush (6 : Int32) dX7_copyFrom_95 (by decide) ?_
  refine rp_cpI (n0 := 6) (n1 := 6) 6 (tX7_6 h_p1) (tX7_6 h0) (by decide) (by decide) (by decide) (mw (i := 723) (by decide +kernel)) (by omega) (Nat.le_of_ble_eq_true rfl) dX7_copyFrom_97 ?_
  refine rp_aload_n 1 dX7_copyFrom_100 rfl ?_
  refine rp_getR fi_X7_34 h_p1 rfl dX7_copyFrom_101 ?_
  refine rp_iconst (0 : Int32) dX7_copyFrom_104 (by decide) ?_
  refine rp_aload_n 0 dX7_copyFrom_105 rfl ?_
  refine rp_getR fi_X7_34 h0 rfl dX7_copyFrom_106 ?_
  refine rp_iconst (0 : Int32) dX7_copyFrom_109 (by decide) ?_
  refine rp_bipush (6 : Int32) dX7_copyFrom_110 (by decide) ?_
  refine rp_cpI (n0 := 6) (n1 := 6) 6 (tX7_7 h_p1) (tX7_7 h0) (by decide) (by decide) (by decide) (mw (i := 723) (by decide +kernel)) (by omega) (Nat.le_of_ble_eq_true rfl) dX7_copyFrom_112 ?_
  refine rp_aload_n 0 dX7_copyFrom_115 rfl ?_
  refine rp_getR fi_X7_40 h0 rfl dX7_copyFrom_116 ?_
  refine rp_aload_n 1 dX7_copyFrom_119 rfl ?_
  refine rp_getR fi_X7_40 h_p1 rfl dX7_copyFrom_120 ?_
  refine rp_callVv [.ref (K.2.1 + (rf p1 8))] (SX0_copyFrom (hn := hn) (rf a0 8) (rf p1 8) (tX7_8 h0) (tX7_8 h_p1)) cvX0_copyFrom (mw (i := 726) (by decide +kernel)) (by omega) (tX7_8 h0) (by decide) rfl rfl rfl (Nat.le_of_ble_eq_true rfl) dX7_copyFrom_123 (fun x1 => ?_)
  refine rp_aload_n 0 dX7_copyFrom_126 rfl ?_
  refine rp_aload_n 1 dX7_copyFrom_127 rfl ?_
  refine rp_getI fi_X7_44 h_p1 rfl dX7_copyFrom_128 (fun x2 => ?_)
  refine rp_putI fi_X7_44 fp_X7_9 h0 rfl dX7_copyFrom_131 ?_
  refine rp_aload_n 0 dX7_copyFrom_134 rfl ?_
  refine rp_aload_n 1 dX7_copyFrom_135 rfl ?_
  refine rp_getI fi_X7_48 h_p1 rfl dX7_copyFrom_136 (fun x3 => ?_)
  refine rp_putI fi_X7_48 fp_X7_10 h0 rfl dX7_copyFrom_139 ?_
  refine rp_aload_n 0 dX7_copyFrom_142 rfl ?_
  refine rp_aload_n 1 dX7_copyFrom_143 rfl ?_
  refine rp_getI fi_X7_51 h_p1 rfl dX7_copyFrom_144 (fun x4 => ?_)
  refine rp_putI fi_X7_51 fp_X7_11 h0 rfl dX7_copyFrom_147 ?_
  exact rp_pu (rp_vret rfl dX7_copyFrom_150)

theorem dX7_hasLine_0 : decode cX7_hasLine 0 = .ok (.iload_n 1, 1) := by decide +kernel
theorem dX7_hasLine_1 : decode cX7_hasLine 1 = .ok (.ifCond .lt 15, 3) := by decide +kernel
theorem dX7_hasLine_4 : decode cX7_hasLine 4 = .ok (.iload_n 1, 1) := by decide +kernel
theorem dX7_hasLine_5 : decode cX7_hasLine 5 = .ok (.aload_n 0, 1) := by decide +kernel
theorem dX7_hasLine_6 : decode cX7_hasLine 6 = .ok (.getfield 44, 3) := by decide +kernel
theorem dX7_hasLine_9 : decode cX7_hasLine 9 = .ok (.if_icmp .ge 7, 3) := by decide +kernel
theorem dX7_hasLine_12 : decode cX7_hasLine 12 = .ok (.iconst 1, 1) := by decide +kernel
theorem dX7_hasLine_13 : decode cX7_hasLine 13 = .ok (.goto 4, 3) := by decide +kernel
theorem dX7_hasLine_16 : decode cX7_hasLine 16 = .ok (.iconst 0, 1) := by decide +kernel
theorem dX7_hasLine_17 : decode cX7_hasLine 17 = .ok (.ireturn, 1) := by decide +kernel
noncomputable def FX7_hasLine (a0 : Nat) (p1 : Int32) : PP Bool := bd (if p1 < 0 then pu (0 : Int32) else bd (gI a0 9) (fun x1 => if x1 ≤ p1 then pu (0 : Int32) else pu (1 : Int32)) : PP (Int32)) (fun (v2 : Int32) => zb v2)
set_option maxHeartbeats 4000000 in
set_option maxRecDepth 100000 in
theorem SX7_hasLine {l : Launch} {K : KK} {n : Nat} {hn : 270 ≤ n} (a0 : Nat) (p1 : Int32) (h0 : ob a0 7) : CT l K n 0 mX7_hasLine [.ref (K.2.1 + a0), .int p1] enZ (FX7_hasLine a0 p1) := by
  refine CT.of2 (lv2 := [(0, .ref (K.2.1 + a0)), (1, .int p1)]) (by decide) rfl hn (Nat.le_of_ble_eq_true rfl) rfl (rp_id ?_)
  unfold FX7_hasLine
  refine rp_iload_n 1 dX7_hasLine_0 rfl ?_
  refine rp_as ?_
  refine rp_join 17 (fun (v2 : Int32) => []) (fun v2 => [.int v2]) (fun v2 => ?_) (fun hJ17 => ?_)
  · exact rp_zretb rfl dX7_hasLine_17
  refine rp_if_lt 16 dX7_hasLine_1 (by decide) ?_ ?_
  · refine rp_iconst (0 : Int32) dX7_hasLine_16 (by decide) ?_
    exact rp_sub [] rfl (rp_pu (hJ17 (0 : Int32)))
  · refine rp_iload_n 1 dX7_hasLine_4 rfl ?_
    refine rp_aload_n 0 dX7_hasLine_5 rfl ?_
    refine rp_getI fi_X7_44 h0 rfl dX7_hasLine_6 (fun x1 => ?_)
    refine rp_icmp_ge 16 dX7_hasLine_9 (by decide) ?_ ?_
    · refine rp_iconst (0 : Int32) dX7_hasLine_16 (by decide) ?_
      exact rp_sub [] rfl (rp_pu (hJ17 (0 : Int32)))
    · refine rp_iconst (1 : Int32) dX7_hasLine_12 (by decide) ?_
      refine rp_goto 17 dX7_hasLine_13 (by decide) ?_
      exact rp_sub [] rfl (rp_pu (hJ17 (1 : Int32)))

theorem dX7_hasPlace_0 : decode cX7_hasPlace 0 = .ok (.iload_n 1, 1) := by decide +kernel
theorem dX7_hasPlace_1 : decode cX7_hasPlace 1 = .ok (.ifCond .lt 15, 3) := by decide +kernel
theorem dX7_hasPlace_4 : decode cX7_hasPlace 4 = .ok (.iload_n 1, 1) := by decide +kernel
theorem dX7_hasPlace_5 : decode cX7_hasPlace 5 = .ok (.aload_n 0, 1) := by decide +kernel
theorem dX7_hasPlace_6 : decode cX7_hasPlace 6 = .ok (.getfield 48, 3) := by decide +kernel
theorem dX7_hasPlace_9 : decode cX7_hasPlace 9 = .ok (.if_icmp .ge 7, 3) := by decide +kernel
theorem dX7_hasPlace_12 : decode cX7_hasPlace 12 = .ok (.iconst 1, 1) := by decide +kernel
theorem dX7_hasPlace_13 : decode cX7_hasPlace 13 = .ok (.goto 4, 3) := by decide +kernel
theorem dX7_hasPlace_16 : decode cX7_hasPlace 16 = .ok (.iconst 0, 1) := by decide +kernel
theorem dX7_hasPlace_17 : decode cX7_hasPlace 17 = .ok (.ireturn, 1) := by decide +kernel
noncomputable def FX7_hasPlace (a0 : Nat) (p1 : Int32) : PP Bool := bd (if p1 < 0 then pu (0 : Int32) else bd (gI a0 10) (fun x1 => if x1 ≤ p1 then pu (0 : Int32) else pu (1 : Int32)) : PP (Int32)) (fun (v2 : Int32) => zb v2)
set_option maxHeartbeats 4000000 in
set_option maxRecDepth 100000 in
theorem SX7_hasPlace {l : Launch} {K : KK} {n : Nat} {hn : 270 ≤ n} (a0 : Nat) (p1 : Int32) (h0 : ob a0 7) : CT l K n 0 mX7_hasPlace [.ref (K.2.1 + a0), .int p1] enZ (FX7_hasPlace a0 p1) := by
  refine CT.of2 (lv2 := [(0, .ref (K.2.1 + a0)), (1, .int p1)]) (by decide) rfl hn (Nat.le_of_ble_eq_true rfl) rfl (rp_id ?_)
  unfold FX7_hasPlace
  refine rp_iload_n 1 dX7_hasPlace_0 rfl ?_
  refine rp_as ?_
  refine rp_join 17 (fun (v2 : Int32) => []) (fun v2 => [.int v2]) (fun v2 => ?_) (fun hJ17 => ?_)
  · exact rp_zretb rfl dX7_hasPlace_17
  refine rp_if_lt 16 dX7_hasPlace_1 (by decide) ?_ ?_
  · refine rp_iconst (0 : Int32) dX7_hasPlace_16 (by decide) ?_
    exact rp_sub [] rfl (rp_pu (hJ17 (0 : Int32)))
  · refine rp_iload_n 1 dX7_hasPlace_4 rfl ?_
    refine rp_aload_n 0 dX7_hasPlace_5 rfl ?_
    refine rp_getI fi_X7_48 h0 rfl dX7_hasPlace_6 (fun x1 => ?_)
    refine rp_icmp_ge 16 dX7_hasPlace_9 (by decide) ?_ ?_
    · refine rp_iconst (0 : Int32) dX7_hasPlace_16 (by decide) ?_
      exact rp_sub [] rfl (rp_pu (hJ17 (0 : Int32)))
    · refine rp_iconst (1 : Int32) dX7_hasPlace_12 (by decide) ?_
      refine rp_goto 17 dX7_hasPlace_13 (by decide) ?_
      exact rp_sub [] rfl (rp_pu (hJ17 (1 : Int32)))

theorem dX7_hasCloth_0 : decode cX7_hasCloth 0 = .ok (.iload_n 1, 1) := by decide +kernel
theorem dX7_hasCloth_1 : decode cX7_hasCloth 1 = .ok (.ifCond .lt 15, 3) := by decide +kernel
theorem dX7_hasCloth_4 : decode cX7_hasCloth 4 = .ok (.iload_n 1, 1) := by decide +kernel
theorem dX7_hasCloth_5 : decode cX7_hasCloth 5 = .ok (.aload_n 0, 1) := by decide +kernel
theorem dX7_hasCloth_6 : decode cX7_hasCloth 6 = .ok (.getfield 51, 3) := by decide +kernel
theorem dX7_hasCloth_9 : decode cX7_hasCloth 9 = .ok (.if_icmp .ge 7, 3) := by decide +kernel
theorem dX7_hasCloth_12 : decode cX7_hasCloth 12 = .ok (.iconst 1, 1) := by decide +kernel
theorem dX7_hasCloth_13 : decode cX7_hasCloth 13 = .ok (.goto 4, 3) := by decide +kernel
theorem dX7_hasCloth_16 : decode cX7_hasCloth 16 = .ok (.iconst 0, 1) := by decide +kernel
theorem dX7_hasCloth_17 : decode cX7_hasCloth 17 = .ok (.ireturn, 1) := by decide +kernel
noncomputable def FX7_hasCloth (a0 : Nat) (p1 : Int32) : PP Bool := bd (if p1 < 0 then pu (0 : Int32) else bd (gI a0 11) (fun x1 => if x1 ≤ p1 then pu (0 : Int32) else pu (1 : Int32)) : PP (Int32)) (fun (v2 : Int32) => zb v2)
set_option maxHeartbeats 4000000 in
set_option maxRecDepth 100000 in
theorem SX7_hasCloth {l : Launch} {K : KK} {n : Nat} {hn : 270 ≤ n} (a0 : Nat) (p1 : Int32) (h0 : ob a0 7) : CT l K n 0 mX7_hasCloth [.ref (K.2.1 + a0), .int p1] enZ (FX7_hasCloth a0 p1) := by
  refine CT.of2 (lv2 := [(0, .ref (K.2.1 + a0)), (1, .int p1)]) (by decide) rfl hn (Nat.le_of_ble_eq_true rfl) rfl (rp_id ?_)
  unfold FX7_hasCloth
  refine rp_iload_n 1 dX7_hasCloth_0 rfl ?_
  refine rp_as ?_
  refine rp_join 17 (fun (v2 : Int32) => []) (fun v2 => [.int v2]) (fun v2 => ?_) (fun hJ17 => ?_)
  · exact rp_zretb rfl dX7_hasCloth_17
  refine rp_if_lt 16 dX7_hasCloth_1 (by decide) ?_ ?_
  · refine rp_iconst (0 : Int32) dX7_hasCloth_16 (by decide) ?_
    exact rp_sub [] rfl (rp_pu (hJ17 (0 : Int32)))
  · refine rp_iload_n 1 dX7_hasCloth_4 rfl ?_
    refine rp_aload_n 0 dX7_hasCloth_5 rfl ?_
    refine rp_getI fi_X7_51 h0 rfl dX7_hasCloth_6 (fun x1 => ?_)
    refine rp_icmp_ge 16 dX7_hasCloth_9 (by decide) ?_ ?_
    · refine rp_iconst (0 : Int32) dX7_hasCloth_16 (by decide) ?_
      exact rp_sub [] rfl (rp_pu (hJ17 (0 : Int32)))
    · refine rp_iconst (1 : Int32) dX7_hasCloth_12 (by decide) ?_
      refine rp_goto 17 dX7_hasCloth_13 (by decide) ?_
      exact rp_sub [] rfl (rp_pu (hJ17 (1 : Int32)))

theorem dX4_hangs_0 : decode cX4_hangs 0 = .ok (.aload_n 0, 1) := by decide +kernel
theorem dX4_hangs_1 : decode cX4_hangs 1 = .ok (.getfield 24, 3) := by decide +kernel
theorem dX4_hangs_4 : decode cX4_hangs 4 = .ok (.iload_n 1, 1) := by decide +kernel
theorem dX4_hangs_5 : decode cX4_hangs 5 = .ok (.invokevirtual 43, 3) := by decide +kernel
theorem dX4_hangs_8 : decode cX4_hangs 8 = .ok (.ifCond .eq 17, 3) := by decide +kernel
theorem dX4_hangs_11 : decode cX4_hangs 11 = .ok (.aload_n 0, 1) := by decide +kernel
theorem dX4_hangs_12 : decode cX4_hangs 12 = .ok (.getfield 15, 3) := by decide +kernel
theorem dX4_hangs_15 : decode cX4_hangs 15 = .ok (.iload_n 1, 1) := by decide +kernel
theorem dX4_hangs_16 : decode cX4_hangs 16 = .ok (.iaload, 1) := by decide +kernel
theorem dX4_hangs_17 : decode cX4_hangs 17 = .ok (.iconst (-1), 1) := by decide +kernel
theorem dX4_hangs_18 : decode cX4_hangs 18 = .ok (.if_icmp .eq 7, 3) := by decide +kernel
theorem dX4_hangs_21 : decode cX4_hangs 21 = .ok (.iconst 1, 1) := by decide +kernel
theorem dX4_hangs_22 : decode cX4_hangs 22 = .ok (.goto 4, 3) := by decide +kernel
theorem dX4_hangs_25 : decode cX4_hangs 25 = .ok (.iconst 0, 1) := by decide +kernel
theorem dX4_hangs_26 : decode cX4_hangs 26 = .ok (.ireturn, 1) := by decide +kernel
noncomputable def FX4_hangs (a0 : Nat) (p1 : Int32) : PP Bool := bd (FX7_hasCloth (rf a0 0) p1) (fun x1 => bd (if ((b2i x1)) = 0 then pu (0 : Int32) else bd (aI (rf a0 2) 6 p1) (fun x2 => if x2 = (-1 : Int32) then pu (0 : Int32) else pu (1 : Int32)) : PP (Int32)) (fun (v3 : Int32) => zb v3))
set_option maxHeartbeats 4000000 in
set_option maxRecDepth 100000 in
theorem SX4_hangs {l : Launch} {K : KK} {n : Nat} {hn : 270 ≤ n} (a0 : Nat) (p1 : Int32) (h0 : ob a0 4) : CT l K n 1 mX4_hangs [.ref (K.2.1 + a0), .int p1] enZ (FX4_hangs a0 p1) := by
  refine CT.of2 (lv2 := [(0, .ref (K.2.1 + a0)), (1, .int p1)]) (by decide) rfl hn (Nat.le_of_ble_eq_true rfl) rfl (rp_id ?_)
  unfold FX4_hangs
  refine rp_aload_n 0 dX4_hangs_0 rfl ?_
  refine rp_getR fi_X4_24 h0 rfl dX4_hangs_1 ?_
  refine rp_iload_n 1 dX4_hangs_4 rfl ?_
  refine rp_callVz [.int p1] (SX7_hasCloth (hn := hn) (rf a0 0) p1 (tX4_0 h0)) cvX7_hasCloth (mw (i := 860) (by decide +kernel)) (by omega) (tX4_0 h0) (by decide) rfl rfl rfl (Nat.le_of_ble_eq_true rfl) dX4_hangs_5 (fun x1 => ?_)
  refine rp_as ?_
  refine rp_join 26 (fun (v3 : Int32) => []) (fun v3 => [.int v3]) (fun v3 => ?_) (fun hJ26 => ?_)
  · exact rp_zretb rfl dX4_hangs_26
  refine rp_if_eq 25 dX4_hangs_8 (by decide) ?_ ?_
  · refine rp_iconst (0 : Int32) dX4_hangs_25 (by decide) ?_
    exact rp_sub [] rfl (rp_pu (hJ26 (0 : Int32)))
  · refine rp_aload_n 0 dX4_hangs_11 rfl ?_
    refine rp_getR fi_X4_15 h0 rfl dX4_hangs_12 ?_
    refine rp_iload_n 1 dX4_hangs_15 rfl ?_
    refine rp_iald (tX4_2 h0) dX4_hangs_16 (fun x2 => ?_)
    refine rp_iconst (-1 : Int32) dX4_hangs_17 (by decide) ?_
    refine rp_icmp_eq 25 dX4_hangs_18 (by decide) ?_ ?_
    · refine rp_iconst (0 : Int32) dX4_hangs_25 (by decide) ?_
      exact rp_sub [] rfl (rp_pu (hJ26 (0 : Int32)))
    · refine rp_iconst (1 : Int32) dX4_hangs_21 (by decide) ?_
      refine rp_goto 26 dX4_hangs_22 (by decide) ?_
      exact rp_sub [] rfl (rp_pu (hJ26 (1 : Int32)))

theorem dX4_lies_0 : decode cX4_lies 0 = .ok (.aload_n 0, 1) := by decide +kernel
theorem dX4_lies_1 : decode cX4_lies 1 = .ok (.getfield 24, 3) := by decide +kernel
theorem dX4_lies_4 : decode cX4_lies 4 = .ok (.iload_n 1, 1) := by decide +kernel
theorem dX4_lies_5 : decode cX4_lies 5 = .ok (.invokevirtual 43, 3) := by decide +kernel
theorem dX4_lies_8 : decode cX4_lies 8 = .ok (.ifCond .eq 17, 3) := by decide +kernel
theorem dX4_lies_11 : decode cX4_lies 11 = .ok (.aload_n 0, 1) := by decide +kernel
theorem dX4_lies_12 : decode cX4_lies 12 = .ok (.getfield 15, 3) := by decide +kernel
theorem dX4_lies_15 : decode cX4_lies 15 = .ok (.iload_n 1, 1) := by decide +kernel
theorem dX4_lies_16 : decode cX4_lies 16 = .ok (.iaload, 1) := by decide +kernel
theorem dX4_lies_17 : decode cX4_lies 17 = .ok (.iconst (-1), 1) := by decide +kernel
theorem dX4_lies_18 : decode cX4_lies 18 = .ok (.if_icmp .ne 7, 3) := by decide +kernel
theorem dX4_lies_21 : decode cX4_lies 21 = .ok (.iconst 1, 1) := by decide +kernel
theorem dX4_lies_22 : decode cX4_lies 22 = .ok (.goto 4, 3) := by decide +kernel
theorem dX4_lies_25 : decode cX4_lies 25 = .ok (.iconst 0, 1) := by decide +kernel
theorem dX4_lies_26 : decode cX4_lies 26 = .ok (.ireturn, 1) := by decide +kernel
noncomputable def FX4_lies (a0 : Nat) (p1 : Int32) : PP Bool := bd (FX7_hasCloth (rf a0 0) p1) (fun x1 => bd (if ((b2i x1)) = 0 then pu (0 : Int32) else bd (aI (rf a0 2) 6 p1) (fun x2 => if x2 = (-1 : Int32) then pu (1 : Int32) else pu (0 : Int32)) : PP (Int32)) (fun (v3 : Int32) => zb v3))
set_option maxHeartbeats 4000000 in
set_option maxRecDepth 100000 in
theorem SX4_lies {l : Launch} {K : KK} {n : Nat} {hn : 270 ≤ n} (a0 : Nat) (p1 : Int32) (h0 : ob a0 4) : CT l K n 1 mX4_lies [.ref (K.2.1 + a0), .int p1] enZ (FX4_lies a0 p1) := by
  refine CT.of2 (lv2 := [(0, .ref (K.2.1 + a0)), (1, .int p1)]) (by decide) rfl hn (Nat.le_of_ble_eq_true rfl) rfl (rp_id ?_)
  unfold FX4_lies
  refine rp_aload_n 0 dX4_lies_0 rfl ?_
  refine rp_getR fi_X4_24 h0 rfl dX4_lies_1 ?_
  refine rp_iload_n 1 dX4_lies_4 rfl ?_
  refine rp_callVz [.int p1] (SX7_hasCloth (hn := hn) (rf a0 0) p1 (tX4_0 h0)) cvX7_hasCloth (mw (i := 860) (by decide +kernel)) (by omega) (tX4_0 h0) (by decide) rfl rfl rfl (Nat.le_of_ble_eq_true rfl) dX4_lies_5 (fun x1 => ?_)
  refine rp_as ?_
  refine rp_join 26 (fun (v3 : Int32) => []) (fun v3 => [.int v3]) (fun v3 => ?_) (fun hJ26 => ?_)
  · exact rp_zretb rfl dX4_lies_26
  refine rp_if_eq 25 dX4_lies_8 (by decide) ?_ ?_
  · refine rp_iconst (0 : Int32) dX4_lies_25 (by decide) ?_
    exact rp_sub [] rfl (rp_pu (hJ26 (0 : Int32)))
  · refine rp_aload_n 0 dX4_lies_11 rfl ?_
    refine rp_getR fi_X4_15 h0 rfl dX4_lies_12 ?_
    refine rp_iload_n 1 dX4_lies_15 rfl ?_
    refine rp_iald (tX4_2 h0) dX4_lies_16 (fun x2 => ?_)
    refine rp_iconst (-1 : Int32) dX4_lies_17 (by decide) ?_
    refine rp_icmp_ne 25 dX4_lies_18 (by decide) ?_ ?_
    · refine rp_iconst (0 : Int32) dX4_lies_25 (by decide) ?_
      exact rp_sub [] rfl (rp_pu (hJ26 (0 : Int32)))
    · refine rp_iconst (1 : Int32) dX4_lies_21 (by decide) ?_
      refine rp_goto 26 dX4_lies_22 (by decide) ?_
      exact rp_sub [] rfl (rp_pu (hJ26 (1 : Int32)))

theorem dX4_canHang_0 : decode cX4_canHang 0 = .ok (.aload_n 0, 1) := by decide +kernel
theorem dX4_canHang_1 : decode cX4_canHang 1 = .ok (.iload_n 1, 1) := by decide +kernel
theorem dX4_canHang_2 : decode cX4_canHang 2 = .ok (.invokevirtual 47, 3) := by decide +kernel
theorem dX4_canHang_5 : decode cX4_canHang 5 = .ok (.ifCond .eq 37, 3) := by decide +kernel
theorem dX4_canHang_8 : decode cX4_canHang 8 = .ok (.aload_n 0, 1) := by decide +kernel
theorem dX4_canHang_9 : decode cX4_canHang 9 = .ok (.getfield 24, 3) := by decide +kernel
theorem dX4_canHang_12 : decode cX4_canHang 12 = .ok (.iload_n 2, 1) := by decide +kernel
theorem dX4_canHang_13 : decode cX4_canHang 13 = .ok (.invokevirtual 50, 3) := by decide +kernel
theorem dX4_canHang_16 : decode cX4_canHang 16 = .ok (.ifCond .eq 26, 3) := by decide +kernel
theorem dX4_canHang_19 : decode cX4_canHang 19 = .ok (.iload_n 3, 1) := by decide +kernel
theorem dX4_canHang_20 : decode cX4_canHang 20 = .ok (.iconst 1, 1) := by decide +kernel
theorem dX4_canHang_21 : decode cX4_canHang 21 = .ok (.if_icmp .lt 21, 3) := by decide +kernel
theorem dX4_canHang_24 : decode cX4_canHang 24 = .ok (.iload_n 3, 1) := by decide +kernel
theorem dX4_canHang_25 : decode cX4_canHang 25 = .ok (.iconst 3, 1) := by decide +kernel
theorem dX4_canHang_26 : decode cX4_canHang 26 = .ok (.if_icmp .gt 16, 3) := by decide +kernel
theorem dX4_canHang_29 : decode cX4_canHang 29 = .ok (.iload_n 3, 1) := by decide +kernel
theorem dX4_canHang_30 : decode cX4_canHang 30 = .ok (.aload_n 0, 1) := by decide +kernel
theorem dX4_canHang_31 : decode cX4_canHang 31 = .ok (.iload_n 2, 1) := by decide +kernel
theorem dX4_canHang_32 : decode cX4_canHang 32 = .ok (.invokevirtual 53, 3) := by decide +kernel
theorem dX4_canHang_35 : decode cX4_canHang 35 = .ok (.if_icmp .gt 7, 3) := by decide +kernel
theorem dX4_canHang_38 : decode cX4_canHang 38 = .ok (.iconst 1, 1) := by decide +kernel
theorem dX4_canHang_39 : decode cX4_canHang 39 = .ok (.goto 4, 3) := by decide +kernel
theorem dX4_canHang_42 : decode cX4_canHang 42 = .ok (.iconst 0, 1) := by decide +kernel
theorem dX4_canHang_43 : decode cX4_canHang 43 = .ok (.ireturn, 1) := by decide +kernel
noncomputable def FX4_canHang (a0 : Nat) (p1 : Int32) (p2 : Int32) (p3 : Int32) : PP Bool := bd (FX4_lies a0 p1) (fun x1 => bd (if ((b2i x1)) = 0 then pu (0 : Int32) else bd (FX7_hasLine (rf a0 0) p2) (fun x2 => if ((b2i x2)) = 0 then pu (0 : Int32) else if p3 < (1 : Int32) then pu (0 : Int32) else if (3 : Int32) < p3 then pu (0 : Int32) else bd (FX4_freeOn a0 p2) (fun x3 => if x3 < p3 then pu (0 : Int32) else pu (1 : Int32))) : PP (Int32)) (fun (v4 : Int32) => zb v4))
set_option maxHeartbeats 4000000 in
set_option maxRecDepth 100000 in
theorem SX4_canHang {l : Launch} {K : KK} {n : Nat} {hn : 270 ≤ n} (a0 : Nat) (p1 : Int32) (p2 : Int32) (p3 : Int32) (h0 : ob a0 4) : CT l K n 2 mX4_canHang [.ref (K.2.1 + a0), .int p1, .int p2, .int p3] enZ (FX4_canHang a0 p1 p2 p3) := by
  refine CT.of2 (lv2 := [(0, .ref (K.2.1 + a0)), (1, .int p1), (2, .int p2), (3, .int p3)]) (by decide) rfl hn (Nat.le_of_ble_eq_true rfl) rfl (rp_id ?_)
  unfold FX4_canHang
  refine rp_aload_n 0 dX4_canHang_0 rfl ?_
  refine rp_iload_n 1 dX4_canHang_1 rfl ?_
  refine rp_callVz [.int p1] (SX4_lies (hn := hn) a0 p1 h0) cvX4_lies (mw (i := 856) (by decide +kernel)) (by omega) h0 (by decide) rfl rfl rfl (Nat.le_of_ble_eq_true rfl) dX4_canHang_2 (fun x1 => ?_)
  refine rp_as ?_
  refine rp_join 43 (fun (v4 : Int32) => []) (fun v4 => [.int v4]) (fun v4 => ?_) (fun hJ43 => ?_)
  · exact rp_zretb rfl dX4_canHang_43
  refine rp_if_eq 42 dX4_canHang_5 (by decide) ?_ ?_
  · refine rp_iconst (0 : Int32) dX4_canHang_42 (by decide) ?_
    exact rp_sub [] rfl (rp_pu (hJ43 (0 : Int32)))
  · refine rp_aload_n 0 dX4_canHang_8 rfl ?_
    refine rp_getR fi_X4_24 h0 rfl dX4_canHang_9 ?_
    refine rp_iload_n 2 dX4_canHang_12 rfl ?_
    refine rp_callVz [.int p2] (SX7_hasLine (hn := hn) (rf a0 0) p2 (tX4_0 h0)) cvX7_hasLine (mw (i := 861) (by decide +kernel)) (by omega) (tX4_0 h0) (by decide) rfl rfl rfl (Nat.le_of_ble_eq_true rfl) dX4_canHang_13 (fun x2 => ?_)
    refine rp_if_eq 42 dX4_canHang_16 (by decide) ?_ ?_
    · refine rp_iconst (0 : Int32) dX4_canHang_42 (by decide) ?_
      exact rp_sub [] rfl (rp_pu (hJ43 (0 : Int32)))
    · refine rp_iload_n 3 dX4_canHang_19 rfl ?_
      refine rp_iconst (1 : Int32) dX4_canHang_20 (by decide) ?_
      refine rp_icmp_lt 42 dX4_canHang_21 (by decide) ?_ ?_
      · refine rp_iconst (0 : Int32) dX4_canHang_42 (by decide) ?_
        exact rp_sub [] rfl (rp_pu (hJ43 (0 : Int32)))
      · refine rp_iload_n 3 dX4_canHang_24 rfl ?_
        refine rp_iconst (3 : Int32) dX4_canHang_25 (by decide) ?_
        refine rp_icmp_gt 42 dX4_canHang_26 (by decide) ?_ ?_
        · refine rp_iconst (0 : Int32) dX4_canHang_42 (by decide) ?_
          exact rp_sub [] rfl (rp_pu (hJ43 (0 : Int32)))
        · refine rp_iload_n 3 dX4_canHang_29 rfl ?_
          refine rp_aload_n 0 dX4_canHang_30 rfl ?_
          refine rp_iload_n 2 dX4_canHang_31 rfl ?_
          refine rp_callVi [.int p2] (SX4_freeOn (hn := hn) a0 p2 h0) cvX4_freeOn (mw (i := 843) (by decide +kernel)) (by omega) h0 (by decide) rfl rfl rfl (Nat.le_of_ble_eq_true rfl) dX4_canHang_32 (fun x3 => ?_)
          refine rp_icmp_gt 42 dX4_canHang_35 (by decide) ?_ ?_
          · refine rp_iconst (0 : Int32) dX4_canHang_42 (by decide) ?_
            exact rp_sub [] rfl (rp_pu (hJ43 (0 : Int32)))
          · refine rp_iconst (1 : Int32) dX4_canHang_38 (by decide) ?_
            refine rp_goto 43 dX4_canHang_39 (by decide) ?_
            exact rp_sub [] rfl (rp_pu (hJ43 (1 : Int32)))

theorem dX3_isDone_0 : decode cX3_isDone 0 = .ok (.aload_n 0, 1) := by decide +kernel
theorem dX3_isDone_1 : decode cX3_isDone 1 = .ok (.getfield 15, 3) := by decide +kernel
theorem dX3_isDone_4 : decode cX3_isDone 4 = .ok (.iload_n 2, 1) := by decide +kernel
theorem dX3_isDone_5 : decode cX3_isDone 5 = .ok (.iaload, 1) := by decide +kernel
theorem dX3_isDone_6 : decode cX3_isDone 6 = .ok (.istore_n 3, 1) := by decide +kernel
theorem dX3_isDone_7 : decode cX3_isDone 7 = .ok (.aload_n 0, 1) := by decide +kernel
theorem dX3_isDone_8 : decode cX3_isDone 8 = .ok (.getfield 9, 3) := by decide +kernel
theorem dX3_isDone_11 : decode cX3_isDone 11 = .ok (.iload_n 2, 1) := by decide +kernel
theorem dX3_isDone_12 : decode cX3_isDone 12 = .ok (.iaload, 1) := by decide +kernel
theorem dX3_isDone_13 : decode cX3_isDone 13 = .ok (.tableswitch 102 0 2 #[27, 68, 85], 27) := by decide +kernel
theorem dX3_isDone_40 : decode cX3_isDone 40 = .ok (.aload_n 1, 1) := by decide +kernel
theorem dX3_isDone_41 : decode cX3_isDone 41 = .ok (.iload_n 3, 1) := by decide +kernel
theorem dX3_isDone_42 : decode cX3_isDone 42 = .ok (.aload_n 0, 1) := by decide +kernel
theorem dX3_isDone_43 : decode cX3_isDone 43 = .ok (.getfield 18, 3) := by decide +kernel
theorem dX3_isDone_46 : decode cX3_isDone 46 = .ok (.iload_n 2, 1) := by decide +kernel
theorem dX3_isDone_47 : decode cX3_isDone 47 = .ok (.iaload, 1) := by decide +kernel
theorem dX3_isDone_48 : decode cX3_isDone 48 = .ok (.aload_n 0, 1) := by decide +kernel
theorem dX3_isDone_49 : decode cX3_isDone 49 = .ok (.getfield 21, 3) := by decide +kernel
theorem dX3_isDone_52 : decode cX3_isDone 52 = .ok (.iload_n 2, 1) := by decide +kernel
theorem dX3_isDone_53 : decode cX3_isDone 53 = .ok (.iaload, 1) := by decide +kernel
theorem dX3_isDone_54 : decode cX3_isDone 54 = .ok (.invokevirtual 123, 3) := by decide +kernel
theorem dX3_isDone_57 : decode cX3_isDone 57 = .ok (.ifCond .ne 5, 3) := by decide +kernel
theorem dX3_isDone_60 : decode cX3_isDone 60 = .ok (.iconst 0, 1) := by decide +kernel
theorem dX3_isDone_61 : decode cX3_isDone 61 = .ok (.ireturn, 1) := by decide +kernel
theorem dX3_isDone_62 : decode cX3_isDone 62 = .ok (.aload_n 1, 1) := by decide +kernel
theorem dX3_isDone_63 : decode cX3_isDone 63 = .ok (.iload_n 3, 1) := by decide +kernel
theorem dX3_isDone_64 : decode cX3_isDone 64 = .ok (.aload_n 0, 1) := by decide +kernel
theorem dX3_isDone_65 : decode cX3_isDone 65 = .ok (.getfield 18, 3) := by decide +kernel
theorem dX3_isDone_68 : decode cX3_isDone 68 = .ok (.iload_n 2, 1) := by decide +kernel
theorem dX3_isDone_69 : decode cX3_isDone 69 = .ok (.iaload, 1) := by decide +kernel
theorem dX3_isDone_70 : decode cX3_isDone 70 = .ok (.aload_n 0, 1) := by decide +kernel
theorem dX3_isDone_71 : decode cX3_isDone 71 = .ok (.getfield 21, 3) := by decide +kernel
theorem dX3_isDone_74 : decode cX3_isDone 74 = .ok (.iload_n 2, 1) := by decide +kernel
theorem dX3_isDone_75 : decode cX3_isDone 75 = .ok (.iaload, 1) := by decide +kernel
theorem dX3_isDone_76 : decode cX3_isDone 76 = .ok (.invokevirtual 127, 3) := by decide +kernel
theorem dX3_isDone_79 : decode cX3_isDone 79 = .ok (.iconst 1, 1) := by decide +kernel
theorem dX3_isDone_80 : decode cX3_isDone 80 = .ok (.ireturn, 1) := by decide +kernel
theorem dX3_isDone_81 : decode cX3_isDone 81 = .ok (.aload_n 1, 1) := by decide +kernel
theorem dX3_isDone_82 : decode cX3_isDone 82 = .ok (.iload_n 3, 1) := by decide +kernel
theorem dX3_isDone_83 : decode cX3_isDone 83 = .ok (.invokevirtual 131, 3) := by decide +kernel
theorem dX3_isDone_86 : decode cX3_isDone 86 = .ok (.ifCond .ne 5, 3) := by decide +kernel
theorem dX3_isDone_89 : decode cX3_isDone 89 = .ok (.iconst 0, 1) := by decide +kernel
theorem dX3_isDone_90 : decode cX3_isDone 90 = .ok (.ireturn, 1) := by decide +kernel
theorem dX3_isDone_91 : decode cX3_isDone 91 = .ok (.aload_n 1, 1) := by decide +kernel
theorem dX3_isDone_92 : decode cX3_isDone 92 = .ok (.iload_n 3, 1) := by decide +kernel
theorem dX3_isDone_93 : decode cX3_isDone 93 = .ok (.invokevirtual 135, 3) := by decide +kernel
theorem dX3_isDone_96 : decode cX3_isDone 96 = .ok (.iconst 1, 1) := by decide +kernel
theorem dX3_isDone_97 : decode cX3_isDone 97 = .ok (.ireturn, 1) := by decide +kernel
theorem dX3_isDone_98 : decode cX3_isDone 98 = .ok (.aload_n 1, 1) := by decide +kernel
theorem dX3_isDone_99 : decode cX3_isDone 99 = .ok (.iload_n 3, 1) := by decide +kernel
theorem dX3_isDone_100 : decode cX3_isDone 100 = .ok (.invokevirtual 138, 3) := by decide +kernel
theorem dX3_isDone_103 : decode cX3_isDone 103 = .ok (.ifCond .ne 5, 3) := by decide +kernel
theorem dX3_isDone_106 : decode cX3_isDone 106 = .ok (.iconst 0, 1) := by decide +kernel
theorem dX3_isDone_107 : decode cX3_isDone 107 = .ok (.ireturn, 1) := by decide +kernel
theorem dX3_isDone_108 : decode cX3_isDone 108 = .ok (.aload_n 1, 1) := by decide +kernel
theorem dX3_isDone_109 : decode cX3_isDone 109 = .ok (.iload_n 3, 1) := by decide +kernel
theorem dX3_isDone_110 : decode cX3_isDone 110 = .ok (.invokevirtual 141, 3) := by decide +kernel
theorem dX3_isDone_113 : decode cX3_isDone 113 = .ok (.iconst 1, 1) := by decide +kernel
theorem dX3_isDone_114 : decode cX3_isDone 114 = .ok (.ireturn, 1) := by decide +kernel
theorem dX3_isDone_115 : decode cX3_isDone 115 = .ok (.aload_n 1, 1) := by decide +kernel
theorem dX3_isDone_116 : decode cX3_isDone 116 = .ok (.iconst 1, 1) := by decide +kernel
theorem dX3_isDone_117 : decode cX3_isDone 117 = .ok (.invokevirtual 144, 3) := by decide +kernel
theorem dX3_isDone_120 : decode cX3_isDone 120 = .ok (.pop, 1) := by decide +kernel
theorem dX3_isDone_121 : decode cX3_isDone 121 = .ok (.iconst 1, 1) := by decide +kernel
theorem dX3_isDone_122 : decode cX3_isDone 122 = .ok (.ireturn, 1) := by decide +kernel
noncomputable def FX3_isDone (a0 : Nat) (p1 : Nat) (p2 : Int32) : PP Bool := bd (aI (rf a0 1) 40 p2) (fun x1 => bd (aI (rf a0 0) 40 p2) (fun x2 => tsw x2 [(0 : Int32), (1 : Int32), (2 : Int32)] [bd (aI (rf a0 2) 40 p2) (fun x3 => bd (aI (rf a0 3) 40 p2) (fun x4 => bd (FX4_canHang p1 x1 x3 x4) (fun x5 => if ((b2i x5)) = 0 then zb (0 : Int32) else bd (aI (rf a0 2) 40 p2) (fun x6 => bd (aI (rf a0 3) 40 p2) (fun x7 => bd (FX4_putUp p1 x1 x6 x7) (fun (_ : Unit) => zb (1 : Int32))))))), bd (FX4_hangs p1 x1) (fun x9 => if ((b2i x9)) = 0 then zb (0 : Int32) else bd (FX4_putDown p1 x1) (fun (_ : Unit) => zb (1 : Int32))), bd (FX4_lies p1 x1) (fun x11 => if ((b2i x11)) = 0 then zb (0 : Int32) else bd (FX4_soak p1 x1) (fun (_ : Unit) => zb (1 : Int32)))] (bd (FX4_passHour p1 (1 : Int32)) (fun x13 => zb (1 : Int32)))))
set_option maxHeartbeats 4000000 in
set_option maxRecDepth 100000 in
theorem SX3_isDone {l : Launch} {K : KK} {n : Nat} {hn : 270 ≤ n} (a0 : Nat) (p1 : Nat) (p2 : Int32) (h0 : ob a0 3) (h_p1 : ob p1 4) : CT l K n 3 mX3_isDone [.ref (K.2.1 + a0), .ref (K.2.1 + p1), .int p2] enZ (FX3_isDone a0 p1 p2) := by
  refine CT.of2 (lv2 := [(0, .ref (K.2.1 + a0)), (1, .ref (K.2.1 + p1)), (2, .int p2)]) (by decide) rfl hn (Nat.le_of_ble_eq_true rfl) rfl (rp_id ?_)
  unfold FX3_isDone
  refine rp_aload_n 0 dX3_isDone_0 rfl ?_
  refine rp_getR fi_X3_15 h0 rfl dX3_isDone_1 ?_
  refine rp_iload_n 2 dX3_isDone_4 rfl ?_
  refine rp_iald (tX3_1 h0) dX3_isDone_5 (fun x1 => ?_)
  refine rp_istore_n [(3, .int x1), (0, .ref (K.2.1 + a0)), (1, .ref (K.2.1 + p1)), (2, .int p2)] dX3_isDone_6 (by decide) rfl ?_
  refine rp_aload_n 1 dX3_isDone_7 rfl ?_
  refine rp_getR fi_X3_9 h0 rfl dX3_isDone_8 ?_
  refine rp_iload_n 3 dX3_isDone_11 rfl ?_
  refine rp_iald (tX3_0 h0) dX3_isDone_12 (fun x2 => ?_)
  refine rp_tsw [40, 81, 98] 115 dX3_isDone_13 rfl (by decide +kernel) ?_ ?_
  · refine ⟨?_, ?_, ?_, trivial⟩
    · refine rp_aload_n 2 dX3_isDone_40 rfl ?_
      refine rp_iload_n 0 dX3_isDone_41 rfl ?_
      refine rp_aload_n 1 dX3_isDone_42 rfl ?_
      refine rp_getR fi_X3_18 h0 rfl dX3_isDone_43 ?_
      refine rp_iload_n 3 dX3_isDone_46 rfl ?_
      refine rp_iald (tX3_2 h0) dX3_isDone_47 (fun x3 => ?_)
      refine rp_aload_n 1 dX3_isDone_48 rfl ?_
      refine rp_getR fi_X3_21 h0 rfl dX3_isDone_49 ?_
      refine rp_iload_n 3 dX3_isDone_52 rfl ?_
      refine rp_iald (tX3_3 h0) dX3_isDone_53 (fun x4 => ?_)
      refine rp_callVz [.int x1, .int x3, .int x4] (SX4_canHang (hn := hn) p1 x1 x3 x4 h_p1) cvX4_canHang (mw (i := 967) (by decide +kernel)) (by omega) h_p1 (by decide) rfl rfl rfl (Nat.le_of_ble_eq_true rfl) dX3_isDone_54 (fun x5 => ?_)
      refine rp_if_ne 62 dX3_isDone_57 (by decide) ?_ ?_
      · refine rp_aload_n 2 dX3_isDone_62 rfl ?_
        refine rp_iload_n 0 dX3_isDone_63 rfl ?_
        refine rp_aload_n 1 dX3_isDone_64 rfl ?_
        refine rp_getR fi_X3_18 h0 rfl dX3_isDone_65 ?_
        refine rp_iload_n 3 dX3_isDone_68 rfl ?_
        refine rp_iald (tX3_2 h0) dX3_isDone_69 (fun x6 => ?_)
        refine rp_aload_n 1 dX3_isDone_70 rfl ?_
        refine rp_getR fi_X3_21 h0 rfl dX3_isDone_71 ?_
        refine rp_iload_n 3 dX3_isDone_74 rfl ?_
        refine rp_iald (tX3_3 h0) dX3_isDone_75 (fun x7 => ?_)
        refine rp_callVv [.int x1, .int x6, .int x7] (SX4_putUp (hn := hn) p1 x1 x6 x7 h_p1) cvX4_putUp (mw (i := 968) (by decide +kernel)) (by omega) h_p1 (by decide) rfl rfl rfl (Nat.le_of_ble_eq_true rfl) dX3_isDone_76 (fun x8 => ?_)
        refine rp_iconst (1 : Int32) dX3_isDone_79 (by decide) ?_
        exact rp_zretb rfl dX3_isDone_80
      · refine rp_iconst (0 : Int32) dX3_isDone_60 (by decide) ?_
        exact rp_zretb rfl dX3_isDone_61
    · refine rp_aload_n 2 dX3_isDone_81 rfl ?_
      refine rp_iload_n 0 dX3_isDone_82 rfl ?_
      refine rp_callVz [.int x1] (SX4_hangs (hn := hn) p1 x1 h_p1) cvX4_hangs (mw (i := 969) (by decide +kernel)) (by omega) h_p1 (by decide) rfl rfl rfl (Nat.le_of_ble_eq_true rfl) dX3_isDone_83 (fun x9 => ?_)
      refine rp_if_ne 91 dX3_isDone_86 (by decide) ?_ ?_
      · refine rp_aload_n 2 dX3_isDone_91 rfl ?_
        refine rp_iload_n 0 dX3_isDone_92 rfl ?_
        refine rp_callVv [.int x1] (SX4_putDown (hn := hn) p1 x1 h_p1) cvX4_putDown (mw (i := 970) (by decide +kernel)) (by omega) h_p1 (by decide) rfl rfl rfl (Nat.le_of_ble_eq_true rfl) dX3_isDone_93 (fun x10 => ?_)
        refine rp_iconst (1 : Int32) dX3_isDone_96 (by decide) ?_
        exact rp_zretb rfl dX3_isDone_97
      · refine rp_iconst (0 : Int32) dX3_isDone_89 (by decide) ?_
        exact rp_zretb rfl dX3_isDone_90
    · refine rp_aload_n 2 dX3_isDone_98 rfl ?_
      refine rp_iload_n 0 dX3_isDone_99 rfl ?_
      refine rp_callVz [.int x1] (SX4_lies (hn := hn) p1 x1 h_p1) cvX4_lies (mw (i := 971) (by decide +kernel)) (by omega) h_p1 (by decide) rfl rfl rfl (Nat.le_of_ble_eq_true rfl) dX3_isDone_100 (fun x11 => ?_)
      refine rp_if_ne 108 dX3_isDone_103 (by decide) ?_ ?_
      · refine rp_aload_n 2 dX3_isDone_108 rfl ?_
        refine rp_iload_n 0 dX3_isDone_109 rfl ?_
        refine rp_callVv [.int x1] (SX4_soak (hn := hn) p1 x1 h_p1) cvX4_soak (mw (i := 972) (by decide +kernel)) (by omega) h_p1 (by decide) rfl rfl rfl (Nat.le_of_ble_eq_true rfl) dX3_isDone_110 (fun x12 => ?_)
        refine rp_iconst (1 : Int32) dX3_isDone_113 (by decide) ?_
        exact rp_zretb rfl dX3_isDone_114
      · refine rp_iconst (0 : Int32) dX3_isDone_106 (by decide) ?_
        exact rp_zretb rfl dX3_isDone_107
  · refine rp_aload_n 2 dX3_isDone_115 rfl ?_
    refine rp_iconst (1 : Int32) dX3_isDone_116 (by decide) ?_
    refine rp_callVi [.int (1 : Int32)] (SX4_passHour (hn := hn) p1 (1 : Int32) h_p1) cvX4_passHour (mw (i := 973) (by decide +kernel)) (by omega) h_p1 (by decide) rfl rfl rfl (Nat.le_of_ble_eq_true rfl) dX3_isDone_117 (fun x13 => ?_)
    refine rp_pop dX3_isDone_120 rfl ?_
    refine rp_iconst (1 : Int32) dX3_isDone_121 (by decide) ?_
    exact rp_zretb rfl dX3_isDone_122

theorem dX3_judge_0 : decode cX3_judge 0 = .ok (.aload_n 0, 1) := by decide +kernel
theorem dX3_judge_1 : decode cX3_judge 1 = .ok (.iconst (-1), 1) := by decide +kernel
theorem dX3_judge_2 : decode cX3_judge 2 = .ok (.putfield 104, 3) := by decide +kernel
theorem dX3_judge_5 : decode cX3_judge 5 = .ok (.aload_n 0, 1) := by decide +kernel
theorem dX3_judge_6 : decode cX3_judge 6 = .ok (.iconst (-1), 1) := by decide +kernel
theorem dX3_judge_7 : decode cX3_judge 7 = .ok (.putfield 107, 3) := by decide +kernel
theorem dX3_judge_10 : decode cX3_judge 10 = .ok (.aload_n 1, 1) := by decide +kernel
theorem dX3_judge_11 : decode cX3_judge 11 = .ok (.invokevirtual 110, 3) := by decide +kernel
theorem dX3_judge_14 : decode cX3_judge 14 = .ok (.iconst 0, 1) := by decide +kernel
theorem dX3_judge_15 : decode cX3_judge 15 = .ok (.istore_n 2, 1) := by decide +kernel
theorem dX3_judge_16 : decode cX3_judge 16 = .ok (.iload_n 2, 1) := by decide +kernel
theorem dX3_judge_17 : decode cX3_judge 17 = .ok (.aload_n 0, 1) := by decide +kernel
theorem dX3_judge_18 : decode cX3_judge 18 = .ok (.getfield 30, 3) := by decide +kernel
theorem dX3_judge_21 : decode cX3_judge 21 = .ok (.if_icmp .ge 57, 3) := by decide +kernel
theorem dX3_judge_24 : decode cX3_judge 24 = .ok (.iload_n 2, 1) := by decide +kernel
theorem dX3_judge_25 : decode cX3_judge 25 = .ok (.bipush 40, 2) := by decide +kernel
theorem dX3_judge_27 : decode cX3_judge 27 = .ok (.if_icmp .ge 51, 3) := by decide +kernel
theorem dX3_judge_30 : decode cX3_judge 30 = .ok (.aload_n 0, 1) := by decide +kernel
theorem dX3_judge_31 : decode cX3_judge 31 = .ok (.aload_n 1, 1) := by decide +kernel
theorem dX3_judge_32 : decode cX3_judge 32 = .ok (.iload_n 2, 1) := by decide +kernel
theorem dX3_judge_33 : decode cX3_judge 33 = .ok (.invokevirtual 115, 3) := by decide +kernel
theorem dX3_judge_36 : decode cX3_judge 36 = .ok (.ifCond .ne 16, 3) := by decide +kernel
theorem dX3_judge_39 : decode cX3_judge 39 = .ok (.aload_n 0, 1) := by decide +kernel
theorem dX3_judge_40 : decode cX3_judge 40 = .ok (.getfield 104, 3) := by decide +kernel
theorem dX3_judge_43 : decode cX3_judge 43 = .ok (.iconst (-1), 1) := by decide +kernel
theorem dX3_judge_44 : decode cX3_judge 44 = .ok (.if_icmp .ne 8, 3) := by decide +kernel
theorem dX3_judge_47 : decode cX3_judge 47 = .ok (.aload_n 0, 1) := by decide +kernel
theorem dX3_judge_48 : decode cX3_judge 48 = .ok (.iload_n 2, 1) := by decide +kernel
theorem dX3_judge_49 : decode cX3_judge 49 = .ok (.putfield 104, 3) := by decide +kernel
theorem dX3_judge_52 : decode cX3_judge 52 = .ok (.aload_n 0, 1) := by decide +kernel
theorem dX3_judge_53 : decode cX3_judge 53 = .ok (.getfield 107, 3) := by decide +kernel
theorem dX3_judge_56 : decode cX3_judge 56 = .ok (.iconst (-1), 1) := by decide +kernel
theorem dX3_judge_57 : decode cX3_judge 57 = .ok (.if_icmp .ne 15, 3) := by decide +kernel
theorem dX3_judge_60 : decode cX3_judge 60 = .ok (.aload_n 1, 1) := by decide +kernel
theorem dX3_judge_61 : decode cX3_judge 61 = .ok (.invokevirtual 119, 3) := by decide +kernel
theorem dX3_judge_64 : decode cX3_judge 64 = .ok (.ifCond .eq 8, 3) := by decide +kernel
theorem dX3_judge_67 : decode cX3_judge 67 = .ok (.aload_n 0, 1) := by decide +kernel
theorem dX3_judge_68 : decode cX3_judge 68 = .ok (.iload_n 2, 1) := by decide +kernel
theorem dX3_judge_69 : decode cX3_judge 69 = .ok (.putfield 107, 3) := by decide +kernel
theorem dX3_judge_72 : decode cX3_judge 72 = .ok (.iinc 2 1, 3) := by decide +kernel
theorem dX3_judge_75 : decode cX3_judge 75 = .ok (.goto (-59), 3) := by decide +kernel
theorem dX3_judge_78 : decode cX3_judge 78 = .ok (.return_, 1) := by decide +kernel
noncomputable def FX3_judge (a0 : Nat) (p1 : Nat) : PP Unit := bd (sI a0 5 (-1 : Int32)) (fun (_ : Unit) => bd (sI a0 6 (-1 : Int32)) (fun (_ : Unit) => bd (FX4_begin p1) (fun (_ : Unit) => bd (it (fun (s2 : Int32) => (bd (gI a0 4) (fun x3 => if x3 ≤ s2 then pu (Sum.inr ()) else if (40 : Int32) ≤ s2 then pu (Sum.inr ()) else bd (FX3_isDone a0 p1 s2) (fun x4 => bd (if ((b2i x4)) = 0 then bd (gI a0 5) (fun x5 => if x5 = (-1 : Int32) then bd (sI a0 5 s2) (fun (_ : Unit) => pu ()) else pu ()) else pu () : PP (Unit)) (fun (v6 : Unit) => bd (gI a0 6) (fun x7 => bd (if x7 = (-1 : Int32) then bd (FX4_thunders p1) (fun x8 => if ((b2i x8)) = 0 then pu () else bd (sI a0 6 s2) (fun (_ : Unit) => pu ())) else pu () : PP (Unit)) (fun (v9 : Unit) => lt (s2 + (1 : Int32)) (fun y10 => pu (Sum.inl y10))))))) : PP ((Int32) ⊕ (Unit)))) FU (0 : Int32)) (fun (v11 : Unit) => pu ()))))
set_option maxHeartbeats 4000000 in
set_option maxRecDepth 100000 in
theorem SX3_judge {l : Launch} {K : KK} {n : Nat} {hn : 270 ≤ n} (a0 : Nat) (p1 : Nat) (h0 : ob a0 3) (h_p1 : ob p1 4) : CT l K n 4 mX3_judge [.ref (K.2.1 + a0), .ref (K.2.1 + p1)] enU (FX3_judge a0 p1) := by
  refine CT.of2 (lv2 := [(0, .ref (K.2.1 + a0)), (1, .ref (K.2.1 + p1))]) (by decide) rfl hn (Nat.le_of_ble_eq_true rfl) rfl (rp_id ?_)
  unfold FX3_judge
  refine rp_aload_n 0 dX3_judge_0 rfl ?_
  refine rp_iconst (-1 : Int32) dX3_judge_1 (by decide) ?_
  refine rp_putI fi_X3_104 fp_X3_5 h0 rfl dX3_judge_2 ?_
  refine rp_aload_n 0 dX3_judge_5 rfl ?_
  refine rp_iconst (-1 : Int32) dX3_judge_6 (by decide) ?_
  refine rp_putI fi_X3_107 fp_X3_6 h0 rfl dX3_judge_7 ?_
  refine rp_aload_n 1 dX3_judge_10 rfl ?_
  refine rp_callVv [] (SX4_begin (hn := hn) p1 h_p1) cvX4_begin (mw (i := 962) (by decide +kernel)) (by omega) h_p1 (by decide) rfl rfl rfl (Nat.le_of_ble_eq_true rfl) dX3_judge_11 (fun x1 => ?_)
  refine rp_iconst (0 : Int32) dX3_judge_14 (by decide) ?_
  refine rp_istore_n [(2, .int (0 : Int32)), (0, .ref (K.2.1 + a0)), (1, .ref (K.2.1 + p1))] dX3_judge_15 (by decide) rfl ?_
  refine rp_as ?_
  refine rp_join 78 (fun v11 => []) (fun _ => []) (fun v11 => ?_) (fun hX16_0 => ?_)
  · exact rp_pu (rp_vret rfl dX3_judge_78)
  refine rp_sub [1, 2, 0] rfl (rp_it (fun (s2 : Int32) => [(0, .ref (K.2.1 + a0)), (1, .ref (K.2.1 + p1)), (2, .int s2)]) (fun N16 ih16 s2 => ?_) FU (0 : Int32))
  refine rp_iload_n 2 dX3_judge_16 rfl ?_
  refine rp_aload_n 0 dX3_judge_17 rfl ?_
  refine rp_getI fi_X3_30 h0 rfl dX3_judge_18 (fun x3 => ?_)
  refine rp_icmp_ge 78 dX3_judge_21 (by decide) ?_ ?_
  · exact rp_sub [] rfl (rp_puR (hX16_0 ()))
  · refine rp_iload_n 2 dX3_judge_24 rfl ?_
    refine rp_bipush (40 : Int32) dX3_judge_25 (by decide) ?_
    refine rp_icmp_ge 78 dX3_judge_27 (by decide) ?_ ?_
    · exact rp_sub [] rfl (rp_puR (hX16_0 ()))
    · refine rp_aload_n 0 dX3_judge_30 rfl ?_
      refine rp_aload_n 1 dX3_judge_31 rfl ?_
      refine rp_iload_n 2 dX3_judge_32 rfl ?_
      refine rp_callVz [.ref (K.2.1 + p1), .int s2] (SX3_isDone (hn := hn) a0 p1 s2 h0 h_p1) cvX3_isDone (mw (i := 963) (by decide +kernel)) (by omega) h0 (by decide) rfl rfl rfl (Nat.le_of_ble_eq_true rfl) dX3_judge_33 (fun x4 => ?_)
      refine rp_as ?_
      refine rp_join 52 (fun (v6 : Unit) => [(0, .ref (K.2.1 + a0)), (1, .ref (K.2.1 + p1)), (2, .int s2)]) (fun v6 => []) (fun v6 => ?_) (fun hJ52 => ?_)
      · refine rp_aload_n 0 dX3_judge_52 rfl ?_
        refine rp_getI fi_X3_107 h0 rfl dX3_judge_53 (fun x7 => ?_)
        refine rp_iconst (-1 : Int32) dX3_judge_56 (by decide) ?_
        refine rp_as ?_
        refine rp_join 72 (fun (v9 : Unit) => [(0, .ref (K.2.1 + a0)), (1, .ref (K.2.1 + p1)), (2, .int s2)]) (fun v9 => []) (fun v9 => ?_) (fun hJ72 => ?_)
        · refine rp_iinc (fun y10 => [(2, .int y10), (0, .ref (K.2.1 + a0)), (1, .ref (K.2.1 + p1))]) 2 dX3_judge_72 rfl (by rfl) (by decide) (fun y10 => rfl) (fun y10 => ?_)
          refine rp_goto 16 dX3_judge_75 (by decide) ?_
          exact rp_sub [1, 2, 0] rfl (ih16 y10)
        refine rp_icmp_ne 72 dX3_judge_57 (by decide) ?_ ?_
        · exact rp_sub [0, 1, 2] rfl (rp_pu (hJ72 ()))
        · refine rp_aload_n 1 dX3_judge_60 rfl ?_
          refine rp_callVz [] (SX4_thunders (hn := hn) p1 h_p1) cvX4_thunders (mw (i := 974) (by decide +kernel)) (by omega) h_p1 (by decide) rfl rfl rfl (Nat.le_of_ble_eq_true rfl) dX3_judge_61 (fun x8 => ?_)
          refine rp_if_eq 72 dX3_judge_64 (by decide) ?_ ?_
          · exact rp_sub [0, 1, 2] rfl (rp_pu (hJ72 ()))
          · refine rp_aload_n 0 dX3_judge_67 rfl ?_
            refine rp_iload_n 2 dX3_judge_68 rfl ?_
            refine rp_putI fi_X3_107 fp_X3_6 h0 rfl dX3_judge_69 ?_
            exact rp_sub [0, 1, 2] rfl (rp_pu (hJ72 ()))
      refine rp_if_ne 52 dX3_judge_36 (by decide) ?_ ?_
      · exact rp_sub [0, 1, 2] rfl (rp_pu (hJ52 ()))
      · refine rp_aload_n 0 dX3_judge_39 rfl ?_
        refine rp_getI fi_X3_104 h0 rfl dX3_judge_40 (fun x5 => ?_)
        refine rp_iconst (-1 : Int32) dX3_judge_43 (by decide) ?_
        refine rp_icmp_ne 52 dX3_judge_44 (by decide) ?_ ?_
        · exact rp_sub [0, 1, 2] rfl (rp_pu (hJ52 ()))
        · refine rp_aload_n 0 dX3_judge_47 rfl ?_
          refine rp_iload_n 2 dX3_judge_48 rfl ?_
          refine rp_putI fi_X3_104 fp_X3_5 h0 rfl dX3_judge_49 ?_
          exact rp_sub [0, 1, 2] rfl (rp_pu (hJ52 ()))

theorem dX4_drawOne_0 : decode cX4_drawOne 0 = .ok (.aload_n 0, 1) := by decide +kernel
theorem dX4_drawOne_1 : decode cX4_drawOne 1 = .ok (.aload_n 0, 1) := by decide +kernel
theorem dX4_drawOne_2 : decode cX4_drawOne 2 = .ok (.getfield 24, 3) := by decide +kernel
theorem dX4_drawOne_5 : decode cX4_drawOne 5 = .ok (.getfield 61, 3) := by decide +kernel
theorem dX4_drawOne_8 : decode cX4_drawOne 8 = .ok (.invokevirtual 121, 3) := by decide +kernel
theorem dX4_drawOne_11 : decode cX4_drawOne 11 = .ok (.istore_n 1, 1) := by decide +kernel
theorem dX4_drawOne_12 : decode cX4_drawOne 12 = .ok (.aload_n 0, 1) := by decide +kernel
theorem dX4_drawOne_13 : decode cX4_drawOne 13 = .ok (.iload_n 1, 1) := by decide +kernel
theorem dX4_drawOne_14 : decode cX4_drawOne 14 = .ok (.invokevirtual 124, 3) := by decide +kernel
theorem dX4_drawOne_17 : decode cX4_drawOne 17 = .ok (.ifCond .eq 19, 3) := by decide +kernel
theorem dX4_drawOne_20 : decode cX4_drawOne 20 = .ok (.aload_n 0, 1) := by decide +kernel
theorem dX4_drawOne_21 : decode cX4_drawOne 21 = .ok (.getfield 9, 3) := by decide +kernel
theorem dX4_drawOne_24 : decode cX4_drawOne 24 = .ok (.iload_n 1, 1) := by decide +kernel
theorem dX4_drawOne_25 : decode cX4_drawOne 25 = .ok (.iaload, 1) := by decide +kernel
theorem dX4_drawOne_26 : decode cX4_drawOne 26 = .ok (.ifCond .ne 8, 3) := by decide +kernel
theorem dX4_drawOne_29 : decode cX4_drawOne 29 = .ok (.aload_n 0, 1) := by decide +kernel
theorem dX4_drawOne_30 : decode cX4_drawOne 30 = .ok (.iload_n 1, 1) := by decide +kernel
theorem dX4_drawOne_31 : decode cX4_drawOne 31 = .ok (.invokevirtual 127, 3) := by decide +kernel
theorem dX4_drawOne_34 : decode cX4_drawOne 34 = .ok (.iconst 0, 1) := by decide +kernel
theorem dX4_drawOne_35 : decode cX4_drawOne 35 = .ok (.ireturn, 1) := by decide +kernel
theorem dX4_drawOne_36 : decode cX4_drawOne 36 = .ok (.aload_n 0, 1) := by decide +kernel
theorem dX4_drawOne_37 : decode cX4_drawOne 37 = .ok (.iload_n 1, 1) := by decide +kernel
theorem dX4_drawOne_38 : decode cX4_drawOne 38 = .ok (.invokevirtual 131, 3) := by decide +kernel
theorem dX4_drawOne_41 : decode cX4_drawOne 41 = .ok (.aload_n 0, 1) := by decide +kernel
theorem dX4_drawOne_42 : decode cX4_drawOne 42 = .ok (.aload_n 0, 1) := by decide +kernel
theorem dX4_drawOne_43 : decode cX4_drawOne 43 = .ok (.getfield 24, 3) := by decide +kernel
theorem dX4_drawOne_46 : decode cX4_drawOne 46 = .ok (.getfield 86, 3) := by decide +kernel
theorem dX4_drawOne_49 : decode cX4_drawOne 49 = .ok (.invokevirtual 121, 3) := by decide +kernel
theorem dX4_drawOne_52 : decode cX4_drawOne 52 = .ok (.istore_n 2, 1) := by decide +kernel
theorem dX4_drawOne_53 : decode cX4_drawOne 53 = .ok (.aload_n 0, 1) := by decide +kernel
theorem dX4_drawOne_54 : decode cX4_drawOne 54 = .ok (.iconst 3, 1) := by decide +kernel
theorem dX4_drawOne_55 : decode cX4_drawOne 55 = .ok (.invokevirtual 121, 3) := by decide +kernel
theorem dX4_drawOne_58 : decode cX4_drawOne 58 = .ok (.iconst 1, 1) := by decide +kernel
theorem dX4_drawOne_59 : decode cX4_drawOne 59 = .ok (.iadd, 1) := by decide +kernel
theorem dX4_drawOne_60 : decode cX4_drawOne 60 = .ok (.istore_n 3, 1) := by decide +kernel
theorem dX4_drawOne_61 : decode cX4_drawOne 61 = .ok (.aload_n 0, 1) := by decide +kernel
theorem dX4_drawOne_62 : decode cX4_drawOne 62 = .ok (.iload_n 1, 1) := by decide +kernel
theorem dX4_drawOne_63 : decode cX4_drawOne 63 = .ok (.iload_n 2, 1) := by decide +kernel
theorem dX4_drawOne_64 : decode cX4_drawOne 64 = .ok (.iload_n 3, 1) := by decide +kernel
theorem dX4_drawOne_65 : decode cX4_drawOne 65 = .ok (.invokevirtual 134, 3) := by decide +kernel
theorem dX4_drawOne_68 : decode cX4_drawOne 68 = .ok (.ifCond .ne 5, 3) := by decide +kernel
theorem dX4_drawOne_71 : decode cX4_drawOne 71 = .ok (.iconst 0, 1) := by decide +kernel
theorem dX4_drawOne_72 : decode cX4_drawOne 72 = .ok (.ireturn, 1) := by decide +kernel
theorem dX4_drawOne_73 : decode cX4_drawOne 73 = .ok (.aload_n 0, 1) := by decide +kernel
theorem dX4_drawOne_74 : decode cX4_drawOne 74 = .ok (.iload_n 1, 1) := by decide +kernel
theorem dX4_drawOne_75 : decode cX4_drawOne 75 = .ok (.iload_n 2, 1) := by decide +kernel
theorem dX4_drawOne_76 : decode cX4_drawOne 76 = .ok (.iload_n 3, 1) := by decide +kernel
theorem dX4_drawOne_77 : decode cX4_drawOne 77 = .ok (.invokevirtual 138, 3) := by decide +kernel
theorem dX4_drawOne_80 : decode cX4_drawOne 80 = .ok (.iconst 1, 1) := by decide +kernel
theorem dX4_drawOne_81 : decode cX4_drawOne 81 = .ok (.ireturn, 1) := by decide +kernel
noncomputable def FX4_drawOne (a0 : Nat) : PP Bool := bd (gI (rf a0 0) 11) (fun x1 => bd (FX4_draw a0 x1) (fun x2 => bd (FX4_hangs a0 x2) (fun x3 => if ((b2i x3)) = 0 then bd (FX4_soak a0 x2) (fun (_ : Unit) => bd (gI (rf a0 0) 9) (fun x5 => bd (FX4_draw a0 x5) (fun x6 => bd (FX4_draw a0 (3 : Int32)) (fun x7 => lt (x7 + (1 : Int32)) (fun y8 => bd (FX4_canHang a0 x2 x6 y8) (fun x9 => if ((b2i x9)) = 0 then zb (0 : Int32) else bd (FX4_putUp a0 x2 x6 y8) (fun (_ : Unit) => zb (1 : Int32)))))))) else bd (aI (rf a0 1) 6 x2) (fun x11 => bd (if x11 = 0 then bd (FX4_putDown a0 x2) (fun (_ : Unit) => pu ()) else pu () : PP (Unit)) (fun (v13 : Unit) => zb (0 : Int32))))))
set_option maxHeartbeats 4000000 in
set_option maxRecDepth 100000 in
theorem SX4_drawOne {l : Launch} {K : KK} {n : Nat} {hn : 270 ≤ n} (a0 : Nat) (h0 : ob a0 4) : CT l K n 3 mX4_drawOne [.ref (K.2.1 + a0)] enZ (FX4_drawOne a0) := by
  refine CT.of2 (lv2 := [(0, .ref (K.2.1 + a0))]) (by decide) rfl hn (Nat.le_of_ble_eq_true rfl) rfl (rp_id ?_)
  unfold FX4_drawOne
  refine rp_aload_n 0 dX4_drawOne_0 rfl ?_
  refine rp_aload_n 0 dX4_drawOne_1 rfl ?_
  refine rp_getR fi_X4_24 h0 rfl dX4_drawOne_2 ?_
  refine rp_getI fi_X4_61 (tX4_0 h0) rfl dX4_drawOne_5 (fun x1 => ?_)
  refine rp_callVi [.int x1] (SX4_draw (hn := hn) a0 x1 h0) cvX4_draw (mw (i := 1161) (by decide +kernel)) (by omega) h0 (by decide) rfl rfl rfl (Nat.le_of_ble_eq_true rfl) dX4_drawOne_8 (fun x2 => ?_)
  refine rp_istore_n [(1, .int x2), (0, .ref (K.2.1 + a0))] dX4_drawOne_11 (by decide) rfl ?_
  refine rp_aload_n 1 dX4_drawOne_12 rfl ?_
  refine rp_iload_n 0 dX4_drawOne_13 rfl ?_
  refine rp_callVz [.int x2] (SX4_hangs (hn := hn) a0 x2 h0) cvX4_hangs (mw (i := 1169) (by decide +kernel)) (by omega) h0 (by decide) rfl rfl rfl (Nat.le_of_ble_eq_true rfl) dX4_drawOne_14 (fun x3 => ?_)
  refine rp_if_eq 36 dX4_drawOne_17 (by decide) ?_ ?_
  · refine rp_aload_n 1 dX4_drawOne_36 rfl ?_
    refine rp_iload_n 0 dX4_drawOne_37 rfl ?_
    refine rp_callVv [.int x2] (SX4_soak (hn := hn) a0 x2 h0) cvX4_soak (mw (i := 1171) (by decide +kernel)) (by omega) h0 (by decide) rfl rfl rfl (Nat.le_of_ble_eq_true rfl) dX4_drawOne_38 (fun x4 => ?_)
    refine rp_aload_n 1 dX4_drawOne_41 rfl ?_
    refine rp_aload_n 1 dX4_drawOne_42 rfl ?_
    refine rp_getR fi_X4_24 h0 rfl dX4_drawOne_43 ?_
    refine rp_getI fi_X4_86 (tX4_0 h0) rfl dX4_drawOne_46 (fun x5 => ?_)
    refine rp_callVi [.int x5] (SX4_draw (hn := hn) a0 x5 h0) cvX4_draw (mw (i := 1161) (by decide +kernel)) (by omega) h0 (by decide) rfl rfl rfl (Nat.le_of_ble_eq_true rfl) dX4_drawOne_49 (fun x6 => ?_)
    refine rp_istore_n [(2, .int x6), (1, .int x2), (0, .ref (K.2.1 + a0))] dX4_drawOne_52 (by decide) rfl ?_
    refine rp_aload_n 2 dX4_drawOne_53 rfl ?_
    refine rp_iconst (3 : Int32) dX4_drawOne_54 (by decide) ?_
    refine rp_callVi [.int (3 : Int32)] (SX4_draw (hn := hn) a0 (3 : Int32) h0) cvX4_draw (mw (i := 1161) (by decide +kernel)) (by omega) h0 (by decide) rfl rfl rfl (Nat.le_of_ble_eq_true rfl) dX4_drawOne_55 (fun x7 => ?_)
    refine rp_iconst (1 : Int32) dX4_drawOne_58 (by decide) ?_
    refine rp_iadd dX4_drawOne_59 ?_
    refine rp_lti (fun y8 => ?_)
    refine rp_istore_n [(3, .int y8), (2, .int x6), (1, .int x2), (0, .ref (K.2.1 + a0))] dX4_drawOne_60 (by decide) rfl ?_
    refine rp_aload_n 3 dX4_drawOne_61 rfl ?_
    refine rp_iload_n 2 dX4_drawOne_62 rfl ?_
    refine rp_iload_n 1 dX4_drawOne_63 rfl ?_
    refine rp_iload_n 0 dX4_drawOne_64 rfl ?_
    refine rp_callVz [.int x2, .int x6, .int y8] (SX4_canHang (hn := hn) a0 x2 x6 y8 h0) cvX4_canHang (mw (i := 1172) (by decide +kernel)) (by omega) h0 (by decide) rfl rfl rfl (Nat.le_of_ble_eq_true rfl) dX4_drawOne_65 (fun x9 => ?_)
    refine rp_if_ne 73 dX4_drawOne_68 (by decide) ?_ ?_
    · refine rp_aload_n 3 dX4_drawOne_73 rfl ?_
      refine rp_iload_n 2 dX4_drawOne_74 rfl ?_
      refine rp_iload_n 1 dX4_drawOne_75 rfl ?_
      refine rp_iload_n 0 dX4_drawOne_76 rfl ?_
      refine rp_callVv [.int x2, .int x6, .int y8] (SX4_putUp (hn := hn) a0 x2 x6 y8 h0) cvX4_putUp (mw (i := 1173) (by decide +kernel)) (by omega) h0 (by decide) rfl rfl rfl (Nat.le_of_ble_eq_true rfl) dX4_drawOne_77 (fun x10 => ?_)
      refine rp_iconst (1 : Int32) dX4_drawOne_80 (by decide) ?_
      exact rp_zretb rfl dX4_drawOne_81
    · refine rp_iconst (0 : Int32) dX4_drawOne_71 (by decide) ?_
      exact rp_zretb rfl dX4_drawOne_72
  · refine rp_aload_n 1 dX4_drawOne_20 rfl ?_
    refine rp_getR fi_X4_9 h0 rfl dX4_drawOne_21 ?_
    refine rp_iload_n 0 dX4_drawOne_24 rfl ?_
    refine rp_iald (tX4_1 h0) dX4_drawOne_25 (fun x11 => ?_)
    refine rp_as ?_
    refine rp_join 34 (fun (v13 : Unit) => []) (fun v13 => []) (fun v13 => ?_) (fun hJ34 => ?_)
    · refine rp_iconst (0 : Int32) dX4_drawOne_34 (by decide) ?_
      exact rp_zretb rfl dX4_drawOne_35
    refine rp_if_ne 34 dX4_drawOne_26 (by decide) ?_ ?_
    · exact rp_sub [] rfl (rp_pu (hJ34 ()))
    · refine rp_aload_n 1 dX4_drawOne_29 rfl ?_
      refine rp_iload_n 0 dX4_drawOne_30 rfl ?_
      refine rp_callVv [.int x2] (SX4_putDown (hn := hn) a0 x2 h0) cvX4_putDown (mw (i := 1170) (by decide +kernel)) (by omega) h0 (by decide) rfl rfl rfl (Nat.le_of_ble_eq_true rfl) dX4_drawOne_31 (fun x12 => ?_)
      exact rp_sub [] rfl (rp_pu (hJ34 ()))

theorem dX6_findPairs_0 : decode cX6_findPairs 0 = .ok (.aload_n 0, 1) := by decide +kernel
theorem dX6_findPairs_1 : decode cX6_findPairs 1 = .ok (.iconst 0, 1) := by decide +kernel
theorem dX6_findPairs_2 : decode cX6_findPairs 2 = .ok (.putfield 43, 3) := by decide +kernel
theorem dX6_findPairs_5 : decode cX6_findPairs 5 = .ok (.aload_n 0, 1) := by decide +kernel
theorem dX6_findPairs_6 : decode cX6_findPairs 6 = .ok (.iconst 0, 1) := by decide +kernel
theorem dX6_findPairs_7 : decode cX6_findPairs 7 = .ok (.putfield 46, 3) := by decide +kernel
theorem dX6_findPairs_10 : decode cX6_findPairs 10 = .ok (.aload_n 0, 1) := by decide +kernel
theorem dX6_findPairs_11 : decode cX6_findPairs 11 = .ok (.iconst 0, 1) := by decide +kernel
theorem dX6_findPairs_12 : decode cX6_findPairs 12 = .ok (.putfield 49, 3) := by decide +kernel
theorem dX6_findPairs_15 : decode cX6_findPairs 15 = .ok (.iconst 0, 1) := by decide +kernel
theorem dX6_findPairs_16 : decode cX6_findPairs 16 = .ok (.istore_n 3, 1) := by decide +kernel
theorem dX6_findPairs_17 : decode cX6_findPairs 17 = .ok (.iload_n 3, 1) := by decide +kernel
theorem dX6_findPairs_18 : decode cX6_findPairs 18 = .ok (.iconst 4, 1) := by decide +kernel
theorem dX6_findPairs_19 : decode cX6_findPairs 19 = .ok (.if_icmp .ge 34, 3) := by decide +kernel
theorem dX6_findPairs_22 : decode cX6_findPairs 22 = .ok (.iconst 0, 1) := by decide +kernel
theorem dX6_findPairs_23 : decode cX6_findPairs 23 = .ok (.istore 4, 2) := by decide +kernel
theorem dX6_findPairs_25 : decode cX6_findPairs 25 = .ok (.iload 4, 2) := by decide +kernel
theorem dX6_findPairs_27 : decode cX6_findPairs 27 = .ok (.iconst 4, 1) := by decide +kernel
theorem dX6_findPairs_28 : decode cX6_findPairs 28 = .ok (.if_icmp .gt 19, 3) := by decide +kernel
theorem dX6_findPairs_31 : decode cX6_findPairs 31 = .ok (.aload_n 0, 1) := by decide +kernel
theorem dX6_findPairs_32 : decode cX6_findPairs 32 = .ok (.getfield 23, 3) := by decide +kernel
theorem dX6_findPairs_35 : decode cX6_findPairs 35 = .ok (.iload_n 3, 1) := by decide +kernel
theorem dX6_findPairs_36 : decode cX6_findPairs 36 = .ok (.aaload, 1) := by decide +kernel
theorem dX6_findPairs_37 : decode cX6_findPairs 37 = .ok (.iload 4, 2) := by decide +kernel
theorem dX6_findPairs_39 : decode cX6_findPairs 39 = .ok (.iconst 0, 1) := by decide +kernel
theorem dX6_findPairs_40 : decode cX6_findPairs 40 = .ok (.iastore, 1) := by decide +kernel
theorem dX6_findPairs_41 : decode cX6_findPairs 41 = .ok (.iinc 4 1, 3) := by decide +kernel
theorem dX6_findPairs_44 : decode cX6_findPairs 44 = .ok (.goto (-19), 3) := by decide +kernel
theorem dX6_findPairs_47 : decode cX6_findPairs 47 = .ok (.iinc 3 1, 3) := by decide +kernel
theorem dX6_findPairs_50 : decode cX6_findPairs 50 = .ok (.goto (-33), 3) := by decide +kernel
theorem dX6_findPairs_53 : decode cX6_findPairs 53 = .ok (.iconst 0, 1) := by decide +kernel
theorem dX6_findPairs_54 : decode cX6_findPairs 54 = .ok (.istore_n 3, 1) := by decide +kernel
theorem dX6_findPairs_55 : decode cX6_findPairs 55 = .ok (.iload_n 3, 1) := by decide +kernel
theorem dX6_findPairs_56 : decode cX6_findPairs 56 = .ok (.aload_n 1, 1) := by decide +kernel
theorem dX6_findPairs_57 : decode cX6_findPairs 57 = .ok (.getfield 52, 3) := by decide +kernel
theorem dX6_findPairs_60 : decode cX6_findPairs 60 = .ok (.getfield 58, 3) := by decide +kernel
theorem dX6_findPairs_63 : decode cX6_findPairs 63 = .ok (.if_icmp .ge 74, 3) := by decide +kernel
theorem dX6_findPairs_66 : decode cX6_findPairs 66 = .ok (.iconst 0, 1) := by decide +kernel
theorem dX6_findPairs_67 : decode cX6_findPairs 67 = .ok (.istore 4, 2) := by decide +kernel
theorem dX6_findPairs_69 : decode cX6_findPairs 69 = .ok (.aload_n 1, 1) := by decide +kernel
theorem dX6_findPairs_70 : decode cX6_findPairs 70 = .ok (.iload_n 3, 1) := by decide +kernel
theorem dX6_findPairs_71 : decode cX6_findPairs 71 = .ok (.invokevirtual 63, 3) := by decide +kernel
theorem dX6_findPairs_74 : decode cX6_findPairs 74 = .ok (.ifCond .eq 57, 3) := by decide +kernel
theorem dX6_findPairs_77 : decode cX6_findPairs 77 = .ok (.iload 4, 2) := by decide +kernel
theorem dX6_findPairs_79 : decode cX6_findPairs 79 = .ok (.aload_n 1, 1) := by decide +kernel
theorem dX6_findPairs_80 : decode cX6_findPairs 80 = .ok (.getfield 52, 3) := by decide +kernel
theorem dX6_findPairs_83 : decode cX6_findPairs 83 = .ok (.getfield 67, 3) := by decide +kernel
theorem dX6_findPairs_86 : decode cX6_findPairs 86 = .ok (.if_icmp .ge 45, 3) := by decide +kernel
theorem dX6_findPairs_89 : decode cX6_findPairs 89 = .ok (.aload_n 1, 1) := by decide +kernel
theorem dX6_findPairs_90 : decode cX6_findPairs 90 = .ok (.iload 4, 2) := by decide +kernel
theorem dX6_findPairs_92 : decode cX6_findPairs 92 = .ok (.invokevirtual 70, 3) := by decide +kernel
theorem dX6_findPairs_95 : decode cX6_findPairs 95 = .ok (.ifCond .le 30, 3) := by decide +kernel
theorem dX6_findPairs_98 : decode cX6_findPairs 98 = .ok (.aload_n 0, 1) := by decide +kernel
theorem dX6_findPairs_99 : decode cX6_findPairs 99 = .ok (.getfield 29, 3) := by decide +kernel
theorem dX6_findPairs_102 : decode cX6_findPairs 102 = .ok (.aload_n 1, 1) := by decide +kernel
theorem dX6_findPairs_103 : decode cX6_findPairs 103 = .ok (.invokevirtual 74, 3) := by decide +kernel
theorem dX6_findPairs_106 : decode cX6_findPairs 106 = .ok (.aload_n 0, 1) := by decide +kernel
theorem dX6_findPairs_107 : decode cX6_findPairs 107 = .ok (.getfield 29, 3) := by decide +kernel
theorem dX6_findPairs_110 : decode cX6_findPairs 110 = .ok (.iload_n 3, 1) := by decide +kernel
theorem dX6_findPairs_111 : decode cX6_findPairs 111 = .ok (.iload 4, 2) := by decide +kernel
theorem dX6_findPairs_113 : decode cX6_findPairs 113 = .ok (.iconst 1, 1) := by decide +kernel
theorem dX6_findPairs_114 : decode cX6_findPairs 114 = .ok (.invokevirtual 78, 3) := by decide +kernel
theorem dX6_findPairs_117 : decode cX6_findPairs 117 = .ok (.aload_n 0, 1) := by decide +kernel
theorem dX6_findPairs_118 : decode cX6_findPairs 118 = .ok (.iload_n 3, 1) := by decide +kernel
theorem dX6_findPairs_119 : decode cX6_findPairs 119 = .ok (.iload 4, 2) := by decide +kernel
theorem dX6_findPairs_121 : decode cX6_findPairs 121 = .ok (.iload_n 2, 1) := by decide +kernel
theorem dX6_findPairs_122 : decode cX6_findPairs 122 = .ok (.invokevirtual 82, 3) := by decide +kernel
theorem dX6_findPairs_125 : decode cX6_findPairs 125 = .ok (.iinc 4 1, 3) := by decide +kernel
theorem dX6_findPairs_128 : decode cX6_findPairs 128 = .ok (.goto (-59), 3) := by decide +kernel
theorem dX6_findPairs_131 : decode cX6_findPairs 131 = .ok (.iinc 3 1, 3) := by decide +kernel
theorem dX6_findPairs_134 : decode cX6_findPairs 134 = .ok (.goto (-79), 3) := by decide +kernel
theorem dX6_findPairs_137 : decode cX6_findPairs 137 = .ok (.return_, 1) := by decide +kernel
noncomputable def FX6_findPairs (a0 : Nat) (p1 : Nat) (p2 : Int32) : PP Unit := bd (sI a0 4 (0 : Int32)) (fun (_ : Unit) => bd (sI a0 5 (0 : Int32)) (fun (_ : Unit) => bd (sI a0 6 (0 : Int32)) (fun (_ : Unit) => bd (it (fun (s1 : Int32) => (if (4 : Int32) ≤ s1 then pu (Sum.inr ()) else bd (it (fun (s2 : Int32) => (if (4 : Int32) < s2 then pu (Sum.inr ()) else bd (gd (ib s1 4 = true)) (fun (_ : Unit) => bd (uI (rf (rf a0 8) s1.toNatClampNeg) 5 s2 (0 : Int32)) (fun (_ : Unit) => lt (s2 + (1 : Int32)) (fun y4 => pu (Sum.inl y4)))) : PP ((Int32) ⊕ (Unit)))) FU (0 : Int32)) (fun (v5 : Unit) => lt (s1 + (1 : Int32)) (fun y6 => pu (Sum.inl y6))) : PP ((Int32) ⊕ (Unit)))) FU (0 : Int32)) (fun (v7 : Unit) => bd (it (fun (s8 : Int32) => (bd (gI (rf p1 0) 11) (fun x9 => if x9 ≤ s8 then pu (Sum.inr ()) else bd (it (fun (s10 : Int32) => (bd (FX4_lies p1 s8) (fun x11 => if ((b2i x11)) = 0 then pu (Sum.inr ()) else bd (gI (rf p1 0) 9) (fun x12 => if x12 ≤ s10 then pu (Sum.inr ()) else bd (FX4_freeOn p1 s10) (fun x13 => bd (if x13 ≤ 0 then pu () else bd (FX4_copyFrom (rf a0 7) p1) (fun (_ : Unit) => bd (FX4_putUp (rf a0 7) s8 s10 (1 : Int32)) (fun (_ : Unit) => bd (FX6_tryPair a0 s8 s10 p2) (fun (_ : Unit) => pu ()))) : PP (Unit)) (fun (v17 : Unit) => lt (s10 + (1 : Int32)) (fun y18 => pu (Sum.inl y18)))))) : PP ((Int32) ⊕ (Unit)))) FU (0 : Int32)) (fun (v19 : Unit) => lt (s8 + (1 : Int32)) (fun y20 => pu (Sum.inl y20)))) : PP ((Int32) ⊕ (Unit)))) FU (0 : Int32)) (fun (v21 : Unit) => pu ())))))
set_option maxHeartbeats 4000000 in
set_option maxRecDepth 100000 in
theorem SX6_findPairs {l : Launch} {K : KK} {n : Nat} {hn : 270 ≤ n} (a0 : Nat) (p1 : Nat) (p2 : Int32) (h0 : ob a0 6) (h_p1 : ob p1 4) : CT l K n 5 mX6_findPairs [.ref (K.2.1 + a0), .ref (K.2.1 + p1), .int p2] enU (FX6_findPairs a0 p1 p2) := by
  refine CT.of2 (lv2 := [(0, .ref (K.2.1 + a0)), (1, .ref (K.2.1 + p1)), (2, .int p2)]) (by decide) rfl hn (Nat.le_of_ble_eq_true rfl) rfl (rp_id ?_)
  unfold FX6_findPairs
  refine rp_aload_n 0 dX6_findPairs_0 rfl ?_
  refine rp_iconst (0 : Int32) dX6_findPairs_1 (by decide) ?_
  refine rp_putI fi_X6_43 fp_X6_4 h0 rfl dX6_findPairs_2 ?_
  refine rp_aload_n 0 dX6_findPairs_5 rfl ?_
  refine rp_iconst (0 : Int32) dX6_findPairs_6 (by decide) ?_
  refine rp_putI fi_X6_46 fp_X6_5 h0 rfl dX6_findPairs_7 ?_
  refine rp_aload_n 0 dX6_findPairs_10 rfl ?_
  refine rp_iconst (0 : Int32) dX6_findPairs_11 (by decide) ?_
  refine rp_putI fi_X6_49 fp_X6_6 h0 rfl dX6_findPairs_12 ?_
  refine rp_iconst (0 : Int32) dX6_findPairs_15 (by decide) ?_
  refine rp_istore_n [(3, .int (0 : Int32)), (0, .ref (K.2.1 + a0)), (1, .ref (K.2.1 + p1)), (2, .int p2)] dX6_findPairs_16 (by decide) rfl ?_
  refine rp_as ?_
  refine rp_join 53 (fun v7 => [(0, .ref (K.2.1 + a0)), (1, .ref (K.2.1 + p1)), (2, .int p2)]) (fun _ => []) (fun v7 => ?_) (fun hX17_0 => ?_)
  · refine rp_iconst (0 : Int32) dX6_findPairs_53 (by decide) ?_
    refine rp_istore_n [(3, .int (0 : Int32)), (0, .ref (K.2.1 + a0)), (1, .ref (K.2.1 + p1)), (2, .int p2)] dX6_findPairs_54 (by decide) rfl ?_
    refine rp_as ?_
    refine rp_join 137 (fun v21 => []) (fun _ => []) (fun v21 => ?_) (fun hX55_0 => ?_)
    · exact rp_pu (rp_vret rfl dX6_findPairs_137)
    refine rp_sub [1, 2, 3, 0] rfl (rp_it (fun (s8 : Int32) => [(0, .ref (K.2.1 + a0)), (1, .ref (K.2.1 + p1)), (2, .int p2), (3, .int s8)]) (fun N55 ih55 s8 => ?_) FU (0 : Int32))
    refine rp_iload_n 3 dX6_findPairs_55 rfl ?_
    refine rp_aload_n 1 dX6_findPairs_56 rfl ?_
    refine rp_getR fi_X6_52 h_p1 rfl dX6_findPairs_57 ?_
    refine rp_getI fi_X6_58 (tX4_0 h_p1) rfl dX6_findPairs_60 (fun x9 => ?_)
    refine rp_icmp_ge 137 dX6_findPairs_63 (by decide) ?_ ?_
    · exact rp_sub [] rfl (rp_puR (hX55_0 ()))
    · refine rp_iconst (0 : Int32) dX6_findPairs_66 (by decide) ?_
      refine rp_istore [(4, .int (0 : Int32)), (0, .ref (K.2.1 + a0)), (1, .ref (K.2.1 + p1)), (2, .int p2), (3, .int s8)] dX6_findPairs_67 (by decide) rfl ?_
      refine rp_as ?_
      refine rp_join 131 (fun v19 => [(0, .ref (K.2.1 + a0)), (1, .ref (K.2.1 + p1)), (2, .int p2), (3, .int s8)]) (fun _ => []) (fun v19 => ?_) (fun hX69_0 => ?_)
      · refine rp_iinc (fun y20 => [(3, .int y20), (0, .ref (K.2.1 + a0)), (1, .ref (K.2.1 + p1)), (2, .int p2)]) 3 dX6_findPairs_131 rfl (by rfl) (by decide) (fun y20 => rfl) (fun y20 => ?_)
        refine rp_goto 55 dX6_findPairs_134 (by decide) ?_
        exact rp_sub [1, 2, 3, 0] rfl (ih55 y20)
      refine rp_sub [1, 2, 3, 4, 0] rfl (rp_it (fun (s10 : Int32) => [(0, .ref (K.2.1 + a0)), (1, .ref (K.2.1 + p1)), (2, .int p2), (3, .int s8), (4, .int s10)]) (fun N69 ih69 s10 => ?_) FU (0 : Int32))
      refine rp_aload_n 1 dX6_findPairs_69 rfl ?_
      refine rp_iload_n 3 dX6_findPairs_70 rfl ?_
      refine rp_callVz [.int s8] (SX4_lies (hn := hn) p1 s8 h_p1) cvX4_lies (mw (i := 1082) (by decide +kernel)) (by omega) h_p1 (by decide) rfl rfl rfl (Nat.le_of_ble_eq_true rfl) dX6_findPairs_71 (fun x11 => ?_)
      refine rp_if_eq 131 dX6_findPairs_74 (by decide) ?_ ?_
      · exact rp_sub [0, 1, 2, 3] rfl (rp_puR (hX69_0 ()))
      · refine rp_iload 4 dX6_findPairs_77 rfl ?_
        refine rp_aload_n 1 dX6_findPairs_79 rfl ?_
        refine rp_getR fi_X6_52 h_p1 rfl dX6_findPairs_80 ?_
        refine rp_getI fi_X6_67 (tX4_0 h_p1) rfl dX6_findPairs_83 (fun x12 => ?_)
        refine rp_icmp_ge 131 dX6_findPairs_86 (by decide) ?_ ?_
        · exact rp_sub [0, 1, 2, 3] rfl (rp_puR (hX69_0 ()))
        · refine rp_aload_n 1 dX6_findPairs_89 rfl ?_
          refine rp_iload 4 dX6_findPairs_90 rfl ?_
          refine rp_callVi [.int s10] (SX4_freeOn (hn := hn) p1 s10 h_p1) cvX4_freeOn (mw (i := 1083) (by decide +kernel)) (by omega) h_p1 (by decide) rfl rfl rfl (Nat.le_of_ble_eq_true rfl) dX6_findPairs_92 (fun x13 => ?_)
          refine rp_as ?_
          refine rp_join 125 (fun (v17 : Unit) => [(0, .ref (K.2.1 + a0)), (1, .ref (K.2.1 + p1)), (2, .int p2), (3, .int s8), (4, .int s10)]) (fun v17 => []) (fun v17 => ?_) (fun hJ125 => ?_)
          · refine rp_iinc (fun y18 => [(4, .int y18), (0, .ref (K.2.1 + a0)), (1, .ref (K.2.1 + p1)), (2, .int p2), (3, .int s8)]) 4 dX6_findPairs_125 rfl (by rfl) (by decide) (fun y18 => rfl) (fun y18 => ?_)
            refine rp_goto 69 dX6_findPairs_128 (by decide) ?_
            exact rp_sub [1, 2, 3, 4, 0] rfl (ih69 y18)
          refine rp_if_le 125 dX6_findPairs_95 (by decide) ?_ ?_
          · exact rp_sub [0, 1, 2, 3, 4] rfl (rp_pu (hJ125 ()))
          · refine rp_aload_n 0 dX6_findPairs_98 rfl ?_
            refine rp_getR fi_X6_29 h0 rfl dX6_findPairs_99 ?_
            refine rp_aload_n 1 dX6_findPairs_102 rfl ?_
            refine rp_callVv [.ref (K.2.1 + p1)] (SX4_copyFrom (hn := hn) (rf a0 7) p1 (tX6_7 h0) h_p1) cvX4_copyFrom (mw (i := 1084) (by decide +kernel)) (by omega) (tX6_7 h0) (by decide) rfl rfl rfl (Nat.le_of_ble_eq_true rfl) dX6_findPairs_103 (fun x14 => ?_)
            refine rp_aload_n 0 dX6_findPairs_106 rfl ?_
            refine rp_getR fi_X6_29 h0 rfl dX6_findPairs_107 ?_
            refine rp_iload_n 3 dX6_findPairs_110 rfl ?_
            refine rp_iload 4 dX6_findPairs_111 rfl ?_
            refine rp_iconst (1 : Int32) dX6_findPairs_113 (by decide) ?_
            refine rp_callVv [.int s8, .int s10, .int (1 : Int32)] (SX4_putUp (hn := hn) (rf a0 7) s8 s10 (1 : Int32) (tX6_7 h0)) cvX4_putUp (mw (i := 1085) (by decide +kernel)) (by omega) (tX6_7 h0) (by decide) rfl rfl rfl (Nat.le_of_ble_eq_true rfl) dX6_findPairs_114 (fun x15 => ?_)
            refine rp_aload_n 0 dX6_findPairs_117 rfl ?_
            refine rp_iload_n 3 dX6_findPairs_118 rfl ?_
            refine rp_iload 4 dX6_findPairs_119 rfl ?_
            refine rp_iload_n 2 dX6_findPairs_121 rfl ?_
            refine rp_callVv [.int s8, .int s10, .int p2] (SX6_tryPair (hn := hn) a0 s8 s10 p2 h0) cvX6_tryPair (mw (i := 1086) (by decide +kernel)) (by omega) h0 (by decide) rfl rfl rfl (Nat.le_of_ble_eq_true rfl) dX6_findPairs_122 (fun x16 => ?_)
            exact rp_sub [0, 1, 2, 3, 4] rfl (rp_pu (hJ125 ()))
  refine rp_sub [1, 2, 3, 0] rfl (rp_it (fun (s1 : Int32) => [(0, .ref (K.2.1 + a0)), (1, .ref (K.2.1 + p1)), (2, .int p2), (3, .int s1)]) (fun N17 ih17 s1 => ?_) FU (0 : Int32))
  refine rp_iload_n 3 dX6_findPairs_17 rfl ?_
  refine rp_iconst (4 : Int32) dX6_findPairs_18 (by decide) ?_
  refine rp_icmp_ge 53 dX6_findPairs_19 (by decide) ?_ ?_
  · exact rp_sub [0, 1, 2] rfl (rp_puR (hX17_0 ()))
  · refine rp_iconst (0 : Int32) dX6_findPairs_22 (by decide) ?_
    refine rp_istore [(4, .int (0 : Int32)), (0, .ref (K.2.1 + a0)), (1, .ref (K.2.1 + p1)), (2, .int p2), (3, .int s1)] dX6_findPairs_23 (by decide) rfl ?_
    refine rp_as ?_
    refine rp_join 47 (fun v5 => [(0, .ref (K.2.1 + a0)), (1, .ref (K.2.1 + p1)), (2, .int p2), (3, .int s1)]) (fun _ => []) (fun v5 => ?_) (fun hX25_0 => ?_)
    · refine rp_iinc (fun y6 => [(3, .int y6), (0, .ref (K.2.1 + a0)), (1, .ref (K.2.1 + p1)), (2, .int p2)]) 3 dX6_findPairs_47 rfl (by rfl) (by decide) (fun y6 => rfl) (fun y6 => ?_)
      refine rp_goto 17 dX6_findPairs_50 (by decide) ?_
      exact rp_sub [1, 2, 3, 0] rfl (ih17 y6)
    refine rp_sub [1, 2, 3, 4, 0] rfl (rp_it (fun (s2 : Int32) => [(0, .ref (K.2.1 + a0)), (1, .ref (K.2.1 + p1)), (2, .int p2), (3, .int s1), (4, .int s2)]) (fun N25 ih25 s2 => ?_) FU (0 : Int32))
    refine rp_iload 4 dX6_findPairs_25 rfl ?_
    refine rp_iconst (4 : Int32) dX6_findPairs_27 (by decide) ?_
    refine rp_icmp_gt 47 dX6_findPairs_28 (by decide) ?_ ?_
    · exact rp_sub [0, 1, 2, 3] rfl (rp_puR (hX25_0 ()))
    · refine rp_aload_n 0 dX6_findPairs_31 rfl ?_
      refine rp_getR fi_X6_23 h0 rfl dX6_findPairs_32 ?_
      refine rp_iload_n 3 dX6_findPairs_35 rfl ?_
      refine rp_aald6 (tX6_8 h0) dX6_findPairs_36 (fun hb3 => ?_)
      refine rp_iload 4 dX6_findPairs_37 rfl ?_
      refine rp_iconst (0 : Int32) dX6_findPairs_39 (by decide) ?_
      refine rp_iast (arr6 (tX6_8 h0) hb3) dX6_findPairs_40 ?_
      refine rp_iinc (fun y4 => [(4, .int y4), (0, .ref (K.2.1 + a0)), (1, .ref (K.2.1 + p1)), (2, .int p2), (3, .int s1)]) 4 dX6_findPairs_41 rfl (by rfl) (by decide) (fun y4 => rfl) (fun y4 => ?_)
      refine rp_goto 25 dX6_findPairs_44 (by decide) ?_
      exact rp_sub [1, 2, 3, 4, 0] rfl (ih25 y4)
