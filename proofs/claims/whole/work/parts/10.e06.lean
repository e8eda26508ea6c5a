theorem dX12_cloths_0 : decode cX12_cloths 0 = .ok (.aload_n 0, 1) := by decide +kernel
theorem dX12_cloths_1 : decode cX12_cloths 1 = .ok (.getfield 83, 3) := by decide +kernel
theorem dX12_cloths_4 : decode cX12_cloths 4 = .ok (.iconst 2, 1) := by decide +kernel
theorem dX12_cloths_5 : decode cX12_cloths 5 = .ok (.iaload, 1) := by decide +kernel
theorem dX12_cloths_6 : decode cX12_cloths 6 = .ok (.ireturn, 1) := by decide +kernel
abbrev mX12_cloths : MI := (RX12, yX12_cloths, cX12_cloths, 1, some .int)
theorem cvX12_cloths : CV mX12_cloths 0 := ⟨⟨mw (i := 1309) (by decide +kernel), mw (i := 12) (by decide +kernel), ⟨by decide +kernel, by decide +kernel, by decide +kernel⟩, by decide⟩, mw (i := 1308) (by decide +kernel), mp2 (i := 40) 31 (by decide +kernel)⟩
def FX12_cloths (a0 : Nat) : PP Int32 := bd (aI (rf a0 10) 80 (2 : Int32)) (fun x1 => pu x1)
set_option maxHeartbeats 4000000 in
set_option maxRecDepth 100000 in
theorem SX12_cloths {l : Launch} {K : KK} {n : Nat} {hn : 270 ≤ n} (a0 : Nat) (h0 : ob a0 11) : CT l K n 0 mX12_cloths [.ref (K.2.1 + a0)] enI (FX12_cloths a0) := by
  refine CT.of2 (lv2 := [(0, .ref (K.2.1 + a0))]) (by decide) rfl hn (Nat.le_of_ble_eq_true rfl) rfl (rp_id ?_)
  unfold FX12_cloths
  refine rp_aload_n 0 dX12_cloths_0 rfl ?_
  refine rp_getR fi_X12_83 h0 rfl dX12_cloths_1 ?_
  refine rp_iconst (2 : Int32) dX12_cloths_4 (by decide) ?_
  refine rp_iald (tX12_10 h0) dX12_cloths_5 (fun x1 => ?_)
  exact rp_pu (rp_iret rfl dX12_cloths_6)

theorem dX12_starts_0 : decode cX12_starts 0 = .ok (.iconst 0, 1) := by decide +kernel
theorem dX12_starts_1 : decode cX12_starts 1 = .ok (.istore_n 2, 1) := by decide +kernel
theorem dX12_starts_2 : decode cX12_starts 2 = .ok (.iload_n 2, 1) := by decide +kernel
theorem dX12_starts_3 : decode cX12_starts 3 = .ok (.bipush 19, 2) := by decide +kernel
theorem dX12_starts_5 : decode cX12_starts 5 = .ok (.if_icmp .ge 18, 3) := by decide +kernel
theorem dX12_starts_8 : decode cX12_starts 8 = .ok (.aload_n 0, 1) := by decide +kernel
theorem dX12_starts_9 : decode cX12_starts 9 = .ok (.getfield 113, 3) := by decide +kernel
theorem dX12_starts_12 : decode cX12_starts 12 = .ok (.iload_n 1, 1) := by decide +kernel
theorem dX12_starts_13 : decode cX12_starts 13 = .ok (.iload_n 2, 1) := by decide +kernel
theorem dX12_starts_14 : decode cX12_starts 14 = .ok (.iadd, 1) := by decide +kernel
theorem dX12_starts_15 : decode cX12_starts 15 = .ok (.iconst 0, 1) := by decide +kernel
theorem dX12_starts_16 : decode cX12_starts 16 = .ok (.iastore, 1) := by decide +kernel
theorem dX12_starts_17 : decode cX12_starts 17 = .ok (.iinc 2 1, 3) := by decide +kernel
theorem dX12_starts_20 : decode cX12_starts 20 = .ok (.goto (-18), 3) := by decide +kernel
theorem dX12_starts_23 : decode cX12_starts 23 = .ok (.iconst 0, 1) := by decide +kernel
theorem dX12_starts_24 : decode cX12_starts 24 = .ok (.istore_n 2, 1) := by decide +kernel
theorem dX12_starts_25 : decode cX12_starts 25 = .ok (.iload_n 2, 1) := by decide +kernel
theorem dX12_starts_26 : decode cX12_starts 26 = .ok (.bipush 6, 2) := by decide +kernel
theorem dX12_starts_28 : decode cX12_starts 28 = .ok (.if_icmp .ge 49, 3) := by decide +kernel
theorem dX12_starts_31 : decode cX12_starts 31 = .ok (.aload_n 0, 1) := by decide +kernel
theorem dX12_starts_32 : decode cX12_starts 32 = .ok (.getfield 113, 3) := by decide +kernel
theorem dX12_starts_35 : decode cX12_starts 35 = .ok (.iload_n 1, 1) := by decide +kernel
theorem dX12_starts_36 : decode cX12_starts 36 = .ok (.iconst 1, 1) := by decide +kernel
theorem dX12_starts_37 : decode cX12_starts 37 = .ok (.iadd, 1) := by decide +kernel
theorem dX12_starts_38 : decode cX12_starts 38 = .ok (.iload_n 2, 1) := by decide +kernel
theorem dX12_starts_39 : decode cX12_starts 39 = .ok (.iadd, 1) := by decide +kernel
theorem dX12_starts_40 : decode cX12_starts 40 = .ok (.iload_n 2, 1) := by decide +kernel
theorem dX12_starts_41 : decode cX12_starts 41 = .ok (.aload_n 0, 1) := by decide +kernel
theorem dX12_starts_42 : decode cX12_starts 42 = .ok (.invokevirtual 269, 3) := by decide +kernel
theorem dX12_starts_45 : decode cX12_starts 45 = .ok (.if_icmp .ge 12, 3) := by decide +kernel
theorem dX12_starts_48 : decode cX12_starts 48 = .ok (.aload_n 0, 1) := by decide +kernel
theorem dX12_starts_49 : decode cX12_starts 49 = .ok (.iload_n 2, 1) := by decide +kernel
theorem dX12_starts_50 : decode cX12_starts 50 = .ok (.iconst 1, 1) := by decide +kernel
theorem dX12_starts_51 : decode cX12_starts 51 = .ok (.invokevirtual 273, 3) := by decide +kernel
theorem dX12_starts_54 : decode cX12_starts 54 = .ok (.goto 4, 3) := by decide +kernel
theorem dX12_starts_57 : decode cX12_starts 57 = .ok (.iconst 0, 1) := by decide +kernel
theorem dX12_starts_58 : decode cX12_starts 58 = .ok (.iastore, 1) := by decide +kernel
theorem dX12_starts_59 : decode cX12_starts 59 = .ok (.aload_n 0, 1) := by decide +kernel
theorem dX12_starts_60 : decode cX12_starts 60 = .ok (.getfield 113, 3) := by decide +kernel
theorem dX12_starts_63 : decode cX12_starts 63 = .ok (.iload_n 1, 1) := by decide +kernel
theorem dX12_starts_64 : decode cX12_starts 64 = .ok (.bipush 7, 2) := by decide +kernel
theorem dX12_starts_66 : decode cX12_starts 66 = .ok (.iadd, 1) := by decide +kernel
theorem dX12_starts_67 : decode cX12_starts 67 = .ok (.iload_n 2, 1) := by decide +kernel
theorem dX12_starts_68 : decode cX12_starts 68 = .ok (.iadd, 1) := by decide +kernel
theorem dX12_starts_69 : decode cX12_starts 69 = .ok (.iconst (-1), 1) := by decide +kernel
theorem dX12_starts_70 : decode cX12_starts 70 = .ok (.iastore, 1) := by decide +kernel
theorem dX12_starts_71 : decode cX12_starts 71 = .ok (.iinc 2 1, 3) := by decide +kernel
theorem dX12_starts_74 : decode cX12_starts 74 = .ok (.goto (-49), 3) := by decide +kernel
theorem dX12_starts_77 : decode cX12_starts 77 = .ok (.return_, 1) := by decide +kernel
abbrev mX12_starts : MI := (RX12, yX12_starts, cX12_starts, 3, none)
theorem cvX12_starts : CV mX12_starts 1 := ⟨⟨mw (i := 1305) (by decide +kernel), mw (i := 12) (by decide +kernel), ⟨by decide +kernel, by decide +kernel, by decide +kernel⟩, by decide⟩, mw (i := 1304) (by decide +kernel), mp2 (i := 39) 31 (by decide +kernel)⟩
def FX12_starts (a0 : Nat) (p1 : Int32) : PP Unit := bd (it (fun (s1 : Int32) => (if (19 : Int32) ≤ s1 then pu (Sum.inr ()) else bd (uI (rf a0 23) 966 (p1 + s1) (0 : Int32)) (fun (_ : Unit) => lt (s1 + (1 : Int32)) (fun y2 => pu (Sum.inl y2))) : PP ((Int32) ⊕ (Unit)))) FU (0 : Int32)) (fun (v3 : Unit) => bd (it (fun (s4 : Int32) => (if (6 : Int32) ≤ s4 then pu (Sum.inr ()) else bd (FX12_cloths a0) (fun x5 => bd (if x5 ≤ s4 then pu (0 : Int32) else bd (FX12_clothOf a0 s4 (1 : Int32)) (fun x6 => pu x6) : PP (Int32)) (fun (v7 : Int32) => bd (uI (rf a0 23) 966 ((p1 + (1 : Int32)) + s4) v7) (fun (_ : Unit) => bd (uI (rf a0 23) 966 ((p1 + (7 : Int32)) + s4) (-1 : Int32)) (fun (_ : Unit) => lt (s4 + (1 : Int32)) (fun y8 => pu (Sum.inl y8)))))) : PP ((Int32) ⊕ (Unit)))) FU (0 : Int32)) (fun (v9 : Unit) => pu ()))
set_option maxHeartbeats 4000000 in
set_option maxRecDepth 100000 in
theorem SX12_starts {l : Launch} {K : KK} {n : Nat} {hn : 270 ≤ n} (a0 : Nat) (p1 : Int32) (h0 : ob a0 11) : CT l K n 1 mX12_starts [.ref (K.2.1 + a0), .int p1] enU (FX12_starts a0 p1) := by
  refine CT.of2 (lv2 := [(0, .ref (K.2.1 + a0)), (1, .int p1)]) (by decide) rfl hn (Nat.le_of_ble_eq_true rfl) rfl (rp_id ?_)
  unfold FX12_starts
  refine rp_iconst (0 : Int32) dX12_starts_0 (by decide) ?_
  refine rp_istore_n [(2, .int (0 : Int32)), (0, .ref (K.2.1 + a0)), (1, .int p1)] dX12_starts_1 (by decide) rfl ?_
  refine rp_as ?_
  refine rp_join 23 (fun v3 => [(0, .ref (K.2.1 + a0)), (1, .int p1)]) (fun _ => []) (fun v3 => ?_) (fun hX2_0 => ?_)
  · refine rp_iconst (0 : Int32) dX12_starts_23 (by decide) ?_
    refine rp_istore_n [(2, .int (0 : Int32)), (0, .ref (K.2.1 + a0)), (1, .int p1)] dX12_starts_24 (by decide) rfl ?_
    refine rp_as ?_
    refine rp_join 77 (fun v9 => []) (fun _ => []) (fun v9 => ?_) (fun hX25_0 => ?_)
    · exact rp_pu (rp_vret rfl dX12_starts_77)
    refine rp_sub [1, 2, 0] rfl (rp_it (fun (s4 : Int32) => [(0, .ref (K.2.1 + a0)), (1, .int p1), (2, .int s4)]) (fun N25 ih25 s4 => ?_) FU (0 : Int32))
    refine rp_iload_n 2 dX12_starts_25 rfl ?_
    refine rp_bipush (6 : Int32) dX12_starts_26 (by decide) ?_
    refine rp_icmp_ge 77 dX12_starts_28 (by decide) ?_ ?_
    · exact rp_sub [] rfl (rp_pu (hX25_0 ()))
    · refine rp_aload_n 0 dX12_starts_31 rfl ?_
      refine rp_getR fi_X12_113 h0 rfl dX12_starts_32 ?_
      refine rp_iload_n 1 dX12_starts_35 rfl ?_
      refine rp_iconst (1 : Int32) dX12_starts_36 (by decide) ?_
      refine rp_iadd dX12_starts_37 ?_
      refine rp_iload_n 2 dX12_starts_38 rfl ?_
      refine rp_iadd dX12_starts_39 ?_
      refine rp_iload_n 2 dX12_starts_40 rfl ?_
      refine rp_aload_n 0 dX12_starts_41 rfl ?_
      refine rp_callVi [] (SX12_cloths (hn := hn) a0 h0) cvX12_cloths (mw (i := 1306) (by decide +kernel)) (by omega) h0 (by decide) rfl rfl rfl (Nat.le_of_ble_eq_true rfl) dX12_starts_42 (fun x5 => ?_)
      refine rp_as ?_
      refine rp_join 58 (fun (v7 : Int32) => [(0, .ref (K.2.1 + a0)), (1, .int p1), (2, .int s4)]) (fun v7 => [.int v7, .int ((p1 + (1 : Int32)) + s4), .ref (K.2.1 + (rf a0 23))]) (fun v7 => ?_) (fun hJ58 => ?_)
      · refine rp_iast (tX12_23 h0) dX12_starts_58 ?_
        refine rp_aload_n 0 dX12_starts_59 rfl ?_
        refine rp_getR fi_X12_113 h0 rfl dX12_starts_60 ?_
        refine rp_iload_n 1 dX12_starts_63 rfl ?_
        refine rp_bipush (7 : Int32) dX12_starts_64 (by decide) ?_
        refine rp_iadd dX12_starts_66 ?_
        refine rp_iload_n 2 dX12_starts_67 rfl ?_
        refine rp_iadd dX12_starts_68 ?_
        refine rp_iconst (-1 : Int32) dX12_starts_69 (by decide) ?_
        refine rp_iast (tX12_23 h0) dX12_starts_70 ?_
        refine rp_iinc (fun y8 => [(2, .int y8), (0, .ref (K.2.1 + a0)), (1, .int p1)]) 2 dX12_starts_71 rfl (by rfl) (by decide) (fun y8 => rfl) (fun y8 => ?_)
        refine rp_goto 25 dX12_starts_74 (by decide) ?_
        exact rp_sub [1, 2, 0] rfl (ih25 y8)
      refine rp_icmp_ge 57 dX12_starts_45 (by decide) ?_ ?_
      · refine rp_iconst (0 : Int32) dX12_starts_57 (by decide) ?_
        exact rp_sub [0, 1, 2] rfl (rp_pu (hJ58 (0 : Int32)))
      · refine rp_aload_n 0 dX12_starts_48 rfl ?_
        refine rp_iload_n 2 dX12_starts_49 rfl ?_
        refine rp_iconst (1 : Int32) dX12_starts_50 (by decide) ?_
        refine rp_callVi [.int s4, .int (1 : Int32)] (SX12_clothOf (hn := hn) a0 s4 (1 : Int32) h0) cvX12_clothOf (mw (i := 1310) (by decide +kernel)) (by omega) h0 (by decide) rfl rfl rfl (Nat.le_of_ble_eq_true rfl) dX12_starts_51 (fun x6 => ?_)
        refine rp_goto 58 dX12_starts_54 (by decide) ?_
        exact rp_sub [0, 1, 2] rfl (rp_pu (hJ58 x6))
  refine rp_sub [1, 2, 0] rfl (rp_it (fun (s1 : Int32) => [(0, .ref (K.2.1 + a0)), (1, .int p1), (2, .int s1)]) (fun N2 ih2 s1 => ?_) FU (0 : Int32))
  refine rp_iload_n 2 dX12_starts_2 rfl ?_
  refine rp_bipush (19 : Int32) dX12_starts_3 (by decide) ?_
  refine rp_icmp_ge 23 dX12_starts_5 (by decide) ?_ ?_
  · exact rp_sub [0, 1] rfl (rp_pu (hX2_0 ()))
  · refine rp_aload_n 0 dX12_starts_8 rfl ?_
    refine rp_getR fi_X12_113 h0 rfl dX12_starts_9 ?_
    refine rp_iload_n 1 dX12_starts_12 rfl ?_
    refine rp_iload_n 2 dX12_starts_13 rfl ?_
    refine rp_iadd dX12_starts_14 ?_
    refine rp_iconst (0 : Int32) dX12_starts_15 (by decide) ?_
    refine rp_iast (tX12_23 h0) dX12_starts_16 ?_
    refine rp_iinc (fun y2 => [(2, .int y2), (0, .ref (K.2.1 + a0)), (1, .int p1)]) 2 dX12_starts_17 rfl (by rfl) (by decide) (fun y2 => rfl) (fun y2 => ?_)
    refine rp_goto 2 dX12_starts_20 (by decide) ?_
    exact rp_sub [1, 2, 0] rfl (ih2 y2)

theorem dX12_begins_0 : decode cX12_begins 0 = .ok (.aload_n 0, 1) := by decide +kernel
theorem dX12_begins_1 : decode cX12_begins 1 = .ok (.iconst 0, 1) := by decide +kernel
theorem dX12_begins_2 : decode cX12_begins 2 = .ok (.invokevirtual 276, 3) := by decide +kernel
theorem dX12_begins_5 : decode cX12_begins 5 = .ok (.iconst 0, 1) := by decide +kernel
theorem dX12_begins_6 : decode cX12_begins 6 = .ok (.istore_n 1, 1) := by decide +kernel
theorem dX12_begins_7 : decode cX12_begins 7 = .ok (.iload_n 1, 1) := by decide +kernel
theorem dX12_begins_8 : decode cX12_begins 8 = .ok (.iconst 4, 1) := by decide +kernel
theorem dX12_begins_9 : decode cX12_begins 9 = .ok (.if_icmp .ge 20, 3) := by decide +kernel
theorem dX12_begins_12 : decode cX12_begins 12 = .ok (.aload_n 0, 1) := by decide +kernel
theorem dX12_begins_13 : decode cX12_begins 13 = .ok (.getfield 113, 3) := by decide +kernel
theorem dX12_begins_16 : decode cX12_begins 16 = .ok (.bipush 19, 2) := by decide +kernel
theorem dX12_begins_18 : decode cX12_begins 18 = .ok (.iload_n 1, 1) := by decide +kernel
theorem dX12_begins_19 : decode cX12_begins 19 = .ok (.iadd, 1) := by decide +kernel
theorem dX12_begins_20 : decode cX12_begins 20 = .ok (.bipush (-2), 2) := by decide +kernel
theorem dX12_begins_22 : decode cX12_begins 22 = .ok (.iastore, 1) := by decide +kernel
theorem dX12_begins_23 : decode cX12_begins 23 = .ok (.iinc 1 1, 3) := by decide +kernel
theorem dX12_begins_26 : decode cX12_begins 26 = .ok (.goto (-19), 3) := by decide +kernel
theorem dX12_begins_29 : decode cX12_begins 29 = .ok (.aload_n 0, 1) := by decide +kernel
theorem dX12_begins_30 : decode cX12_begins 30 = .ok (.getfield 113, 3) := by decide +kernel
theorem dX12_begins_33 : decode cX12_begins 33 = .ok (.bipush 23, 2) := by decide +kernel
theorem dX12_begins_35 : decode cX12_begins 35 = .ok (.iconst 0, 1) := by decide +kernel
theorem dX12_begins_36 : decode cX12_begins 36 = .ok (.iastore, 1) := by decide +kernel
theorem dX12_begins_37 : decode cX12_begins 37 = .ok (.aload_n 0, 1) := by decide +kernel
theorem dX12_begins_38 : decode cX12_begins 38 = .ok (.getfield 104, 3) := by decide +kernel
theorem dX12_begins_41 : decode cX12_begins 41 = .ok (.iconst 0, 1) := by decide +kernel
theorem dX12_begins_42 : decode cX12_begins 42 = .ok (.iconst 0, 1) := by decide +kernel
theorem dX12_begins_43 : decode cX12_begins 43 = .ok (.iastore, 1) := by decide +kernel
theorem dX12_begins_44 : decode cX12_begins 44 = .ok (.aload_n 0, 1) := by decide +kernel
theorem dX12_begins_45 : decode cX12_begins 45 = .ok (.iconst 0, 1) := by decide +kernel
theorem dX12_begins_46 : decode cX12_begins 46 = .ok (.putfield 279, 3) := by decide +kernel
theorem dX12_begins_49 : decode cX12_begins 49 = .ok (.iconst 0, 1) := by decide +kernel
theorem dX12_begins_50 : decode cX12_begins 50 = .ok (.istore_n 1, 1) := by decide +kernel
theorem dX12_begins_51 : decode cX12_begins 51 = .ok (.iload_n 1, 1) := by decide +kernel
theorem dX12_begins_52 : decode cX12_begins 52 = .ok (.iconst 4, 1) := by decide +kernel
theorem dX12_begins_53 : decode cX12_begins 53 = .ok (.if_icmp .ge 16, 3) := by decide +kernel
theorem dX12_begins_56 : decode cX12_begins 56 = .ok (.aload_n 0, 1) := by decide +kernel
theorem dX12_begins_57 : decode cX12_begins 57 = .ok (.getfield 116, 3) := by decide +kernel
theorem dX12_begins_60 : decode cX12_begins 60 = .ok (.iload_n 1, 1) := by decide +kernel
theorem dX12_begins_61 : decode cX12_begins 61 = .ok (.iconst 0, 1) := by decide +kernel
theorem dX12_begins_62 : decode cX12_begins 62 = .ok (.bastore, 1) := by decide +kernel
theorem dX12_begins_63 : decode cX12_begins 63 = .ok (.iinc 1 1, 3) := by decide +kernel
theorem dX12_begins_66 : decode cX12_begins 66 = .ok (.goto (-15), 3) := by decide +kernel
theorem dX12_begins_69 : decode cX12_begins 69 = .ok (.return_, 1) := by decide +kernel
abbrev mX12_begins : MI := (RX12, yX12_begins, cX12_begins, 2, none)
theorem cvX12_begins : CV mX12_begins 0 := ⟨⟨mw (i := 1301) (by decide +kernel), mw (i := 12) (by decide +kernel), ⟨by decide +kernel, by decide +kernel, by decide +kernel⟩, by decide⟩, mw (i := 1300) (by decide +kernel), mp2 (i := 38) 31 (by decide +kernel)⟩
def FX12_begins (a0 : Nat) : PP Unit := bd (FX12_starts a0 (0 : Int32)) (fun (_ : Unit) => bd (it (fun (s2 : Int32) => (if (4 : Int32) ≤ s2 then pu (Sum.inr ()) else bd (uI (rf a0 23) 966 ((19 : Int32) + s2) (-2 : Int32)) (fun (_ : Unit) => lt (s2 + (1 : Int32)) (fun y3 => pu (Sum.inl y3))) : PP ((Int32) ⊕ (Unit)))) FU (0 : Int32)) (fun (v4 : Unit) => bd (uI (rf a0 23) 966 (23 : Int32) (0 : Int32)) (fun (_ : Unit) => bd (uI (rf a0 20) 330 (0 : Int32) (0 : Int32)) (fun (_ : Unit) => bd (sI a0 24 (0 : Int32)) (fun (_ : Unit) => bd (it (fun (s5 : Int32) => (if (4 : Int32) ≤ s5 then pu (Sum.inr ()) else bd (uI (rf a0 25) 4 s5 (0 : Int32)) (fun (_ : Unit) => lt (s5 + (1 : Int32)) (fun y6 => pu (Sum.inl y6))) : PP ((Int32) ⊕ (Unit)))) FU (0 : Int32)) (fun (v7 : Unit) => pu ()))))))
set_option maxHeartbeats 4000000 in
set_option maxRecDepth 100000 in
theorem SX12_begins {l : Launch} {K : KK} {n : Nat} {hn : 270 ≤ n} (a0 : Nat) (h0 : ob a0 11) : CT l K n 2 mX12_begins [.ref (K.2.1 + a0)] enU (FX12_begins a0) := by
  refine CT.of2 (lv2 := [(0, .ref (K.2.1 + a0))]) (by decide) rfl hn (Nat.le_of_ble_eq_true rfl) rfl (rp_id ?_)
  unfold FX12_begins
  refine rp_aload_n 0 dX12_begins_0 rfl ?_
  refine rp_iconst (0 : Int32) dX12_begins_1 (by decide) ?_
  refine rp_callVv [.int (0 : Int32)] (SX12_starts (hn := hn) a0 (0 : Int32) h0) cvX12_starts (mw (i := 1302) (by decide +kernel)) (by omega) h0 (by decide) rfl rfl rfl (Nat.le_of_ble_eq_true rfl) dX12_begins_2 (fun x1 => ?_)
  refine rp_iconst (0 : Int32) dX12_begins_5 (by decide) ?_
  refine rp_istore_n [(1, .int (0 : Int32)), (0, .ref (K.2.1 + a0))] dX12_begins_6 (by decide) rfl ?_
  refine rp_as ?_
  refine rp_join 29 (fun v4 => [(0, .ref (K.2.1 + a0))]) (fun _ => []) (fun v4 => ?_) (fun hX7_0 => ?_)
  · refine rp_aload_n 0 dX12_begins_29 rfl ?_
    refine rp_getR fi_X12_113 h0 rfl dX12_begins_30 ?_
    refine rp_bipush (23 : Int32) dX12_begins_33 (by decide) ?_
    refine rp_iconst (0 : Int32) dX12_begins_35 (by decide) ?_
    refine rp_iast (tX12_23 h0) dX12_begins_36 ?_
    refine rp_aload_n 0 dX12_begins_37 rfl ?_
    refine rp_getR fi_X12_104 h0 rfl dX12_begins_38 ?_
    refine rp_iconst (0 : Int32) dX12_begins_41 (by decide) ?_
    refine rp_iconst (0 : Int32) dX12_begins_42 (by decide) ?_
    refine rp_iast (tX12_20 h0) dX12_begins_43 ?_
    refine rp_aload_n 0 dX12_begins_44 rfl ?_
    refine rp_iconst (0 : Int32) dX12_begins_45 (by decide) ?_
    refine rp_putI fi_X12_279 fp_X12_24 h0 rfl dX12_begins_46 ?_
    refine rp_iconst (0 : Int32) dX12_begins_49 (by decide) ?_
    refine rp_istore_n [(1, .int (0 : Int32)), (0, .ref (K.2.1 + a0))] dX12_begins_50 (by decide) rfl ?_
    refine rp_as ?_
    refine rp_join 69 (fun v7 => []) (fun _ => []) (fun v7 => ?_) (fun hX51_0 => ?_)
    · exact rp_pu (rp_vret rfl dX12_begins_69)
    refine rp_sub [1, 0] rfl (rp_it (fun (s5 : Int32) => [(0, .ref (K.2.1 + a0)), (1, .int s5)]) (fun N51 ih51 s5 => ?_) FU (0 : Int32))
    refine rp_iload_n 1 dX12_begins_51 rfl ?_
    refine rp_iconst (4 : Int32) dX12_begins_52 (by decide) ?_
    refine rp_icmp_ge 69 dX12_begins_53 (by decide) ?_ ?_
    · exact rp_sub [] rfl (rp_pu (hX51_0 ()))
    · refine rp_aload_n 0 dX12_begins_56 rfl ?_
      refine rp_getR fi_X12_116 h0 rfl dX12_begins_57 ?_
      refine rp_iload_n 1 dX12_begins_60 rfl ?_
      refine rp_iconst (0 : Int32) dX12_begins_61 (by decide) ?_
      refine rp_zast (tX12_25 h0) (by decide) dX12_begins_62 ?_
      refine rp_iinc (fun y6 => [(1, .int y6), (0, .ref (K.2.1 + a0))]) 1 dX12_begins_63 rfl (by rfl) (by decide) (fun y6 => rfl) (fun y6 => ?_)
      refine rp_goto 51 dX12_begins_66 (by decide) ?_
      exact rp_sub [1, 0] rfl (ih51 y6)
  refine rp_sub [1, 0] rfl (rp_it (fun (s2 : Int32) => [(0, .ref (K.2.1 + a0)), (1, .int s2)]) (fun N7 ih7 s2 => ?_) FU (0 : Int32))
  refine rp_iload_n 1 dX12_begins_7 rfl ?_
  refine rp_iconst (4 : Int32) dX12_begins_8 (by decide) ?_
  refine rp_icmp_ge 29 dX12_begins_9 (by decide) ?_ ?_
  · exact rp_sub [0] rfl (rp_pu (hX7_0 ()))
  · refine rp_aload_n 0 dX12_begins_12 rfl ?_
    refine rp_getR fi_X12_113 h0 rfl dX12_begins_13 ?_
    refine rp_bipush (19 : Int32) dX12_begins_16 (by decide) ?_
    refine rp_iload_n 1 dX12_begins_18 rfl ?_
    refine rp_iadd dX12_begins_19 ?_
    refine rp_bipush (-2 : Int32) dX12_begins_20 (by decide) ?_
    refine rp_iast (tX12_23 h0) dX12_begins_22 ?_
    refine rp_iinc (fun y3 => [(1, .int y3), (0, .ref (K.2.1 + a0))]) 1 dX12_begins_23 rfl (by rfl) (by decide) (fun y3 => rfl) (fun y3 => ?_)
    refine rp_goto 7 dX12_begins_26 (by decide) ?_
    exact rp_sub [1, 0] rfl (ih7 y3)

theorem dX12_readCrosses_0 : decode cX12_readCrosses 0 = .ok (.aload_n 0, 1) := by decide +kernel
theorem dX12_readCrosses_1 : decode cX12_readCrosses 1 = .ok (.dup, 1) := by decide +kernel
theorem dX12_readCrosses_2 : decode cX12_readCrosses 2 = .ok (.getfield 159, 3) := by decide +kernel
theorem dX12_readCrosses_5 : decode cX12_readCrosses 5 = .ok (.iconst 1, 1) := by decide +kernel
theorem dX12_readCrosses_6 : decode cX12_readCrosses 6 = .ok (.iadd, 1) := by decide +kernel
theorem dX12_readCrosses_7 : decode cX12_readCrosses 7 = .ok (.putfield 159, 3) := by decide +kernel
theorem dX12_readCrosses_10 : decode cX12_readCrosses 10 = .ok (.aload_n 0, 1) := by decide +kernel
theorem dX12_readCrosses_11 : decode cX12_readCrosses 11 = .ok (.iconst 1, 1) := by decide +kernel
theorem dX12_readCrosses_12 : decode cX12_readCrosses 12 = .ok (.iconst 0, 1) := by decide +kernel
theorem dX12_readCrosses_13 : decode cX12_readCrosses 13 = .ok (.invokevirtual 241, 3) := by decide +kernel
theorem dX12_readCrosses_16 : decode cX12_readCrosses 16 = .ok (.istore_n 1, 1) := by decide +kernel
theorem dX12_readCrosses_17 : decode cX12_readCrosses 17 = .ok (.aload_n 0, 1) := by decide +kernel
theorem dX12_readCrosses_18 : decode cX12_readCrosses 18 = .ok (.iconst 1, 1) := by decide +kernel
theorem dX12_readCrosses_19 : decode cX12_readCrosses 19 = .ok (.iconst 0, 1) := by decide +kernel
theorem dX12_readCrosses_20 : decode cX12_readCrosses 20 = .ok (.invokevirtual 205, 3) := by decide +kernel
theorem dX12_readCrosses_23 : decode cX12_readCrosses 23 = .ok (.istore_n 2, 1) := by decide +kernel
theorem dX12_readCrosses_24 : decode cX12_readCrosses 24 = .ok (.bipush 44, 2) := by decide +kernel
theorem dX12_readCrosses_26 : decode cX12_readCrosses 26 = .ok (.iconst 2, 1) := by decide +kernel
theorem dX12_readCrosses_27 : decode cX12_readCrosses 27 = .ok (.iload_n 1, 1) := by decide +kernel
theorem dX12_readCrosses_28 : decode cX12_readCrosses 28 = .ok (.imul, 1) := by decide +kernel
theorem dX12_readCrosses_29 : decode cX12_readCrosses 29 = .ok (.iadd, 1) := by decide +kernel
theorem dX12_readCrosses_30 : decode cX12_readCrosses 30 = .ok (.iconst 1, 1) := by decide +kernel
theorem dX12_readCrosses_31 : decode cX12_readCrosses 31 = .ok (.iadd, 1) := by decide +kernel
theorem dX12_readCrosses_32 : decode cX12_readCrosses 32 = .ok (.istore_n 3, 1) := by decide +kernel
theorem dX12_readCrosses_33 : decode cX12_readCrosses 33 = .ok (.aload_n 0, 1) := by decide +kernel
theorem dX12_readCrosses_34 : decode cX12_readCrosses 34 = .ok (.getfield 162, 3) := by decide +kernel
theorem dX12_readCrosses_37 : decode cX12_readCrosses 37 = .ok (.ifCond .ne 27, 3) := by decide +kernel
theorem dX12_readCrosses_40 : decode cX12_readCrosses 40 = .ok (.iload_n 1, 1) := by decide +kernel
theorem dX12_readCrosses_41 : decode cX12_readCrosses 41 = .ok (.iload_n 2, 1) := by decide +kernel
theorem dX12_readCrosses_42 : decode cX12_readCrosses 42 = .ok (.if_icmp .eq 17, 3) := by decide +kernel
theorem dX12_readCrosses_45 : decode cX12_readCrosses 45 = .ok (.aload_n 0, 1) := by decide +kernel
theorem dX12_readCrosses_46 : decode cX12_readCrosses 46 = .ok (.getfield 83, 3) := by decide +kernel
theorem dX12_readCrosses_49 : decode cX12_readCrosses 49 = .ok (.iload_n 3, 1) := by decide +kernel
theorem dX12_readCrosses_50 : decode cX12_readCrosses 50 = .ok (.iaload, 1) := by decide +kernel
theorem dX12_readCrosses_51 : decode cX12_readCrosses 51 = .ok (.iload_n 2, 1) := by decide +kernel
theorem dX12_readCrosses_52 : decode cX12_readCrosses 52 = .ok (.ishr, 1) := by decide +kernel
theorem dX12_readCrosses_53 : decode cX12_readCrosses 53 = .ok (.iconst 1, 1) := by decide +kernel
theorem dX12_readCrosses_54 : decode cX12_readCrosses 54 = .ok (.iand, 1) := by decide +kernel
theorem dX12_readCrosses_55 : decode cX12_readCrosses 55 = .ok (.iconst 1, 1) := by decide +kernel
theorem dX12_readCrosses_56 : decode cX12_readCrosses 56 = .ok (.if_icmp .ne 8, 3) := by decide +kernel
theorem dX12_readCrosses_59 : decode cX12_readCrosses 59 = .ok (.aload_n 0, 1) := by decide +kernel
theorem dX12_readCrosses_60 : decode cX12_readCrosses 60 = .ok (.iconst 3, 1) := by decide +kernel
theorem dX12_readCrosses_61 : decode cX12_readCrosses 61 = .ok (.invokevirtual 168, 3) := by decide +kernel
theorem dX12_readCrosses_64 : decode cX12_readCrosses 64 = .ok (.aload_n 0, 1) := by decide +kernel
theorem dX12_readCrosses_65 : decode cX12_readCrosses 65 = .ok (.dup, 1) := by decide +kernel
theorem dX12_readCrosses_66 : decode cX12_readCrosses 66 = .ok (.getfield 159, 3) := by decide +kernel
theorem dX12_readCrosses_69 : decode cX12_readCrosses 69 = .ok (.aload_n 0, 1) := by decide +kernel
theorem dX12_readCrosses_70 : decode cX12_readCrosses 70 = .ok (.getfield 162, 3) := by decide +kernel
theorem dX12_readCrosses_73 : decode cX12_readCrosses 73 = .ok (.ifCond .le 7, 3) := by decide +kernel
theorem dX12_readCrosses_76 : decode cX12_readCrosses 76 = .ok (.iconst 0, 1) := by decide +kernel
theorem dX12_readCrosses_77 : decode cX12_readCrosses 77 = .ok (.goto 4, 3) := by decide +kernel
theorem dX12_readCrosses_80 : decode cX12_readCrosses 80 = .ok (.iconst 1, 1) := by decide +kernel
theorem dX12_readCrosses_81 : decode cX12_readCrosses 81 = .ok (.iadd, 1) := by decide +kernel
theorem dX12_readCrosses_82 : decode cX12_readCrosses 82 = .ok (.putfield 159, 3) := by decide +kernel
theorem dX12_readCrosses_85 : decode cX12_readCrosses 85 = .ok (.aload_n 0, 1) := by decide +kernel
theorem dX12_readCrosses_86 : decode cX12_readCrosses 86 = .ok (.getfield 162, 3) := by decide +kernel
theorem dX12_readCrosses_89 : decode cX12_readCrosses 89 = .ok (.ifCond .ne 34, 3) := by decide +kernel
theorem dX12_readCrosses_92 : decode cX12_readCrosses 92 = .ok (.aload_n 0, 1) := by decide +kernel
theorem dX12_readCrosses_93 : decode cX12_readCrosses 93 = .ok (.getfield 83, 3) := by decide +kernel
theorem dX12_readCrosses_96 : decode cX12_readCrosses 96 = .ok (.iload_n 3, 1) := by decide +kernel
theorem dX12_readCrosses_97 : decode cX12_readCrosses 97 = .ok (.dup2, 1) := by decide +kernel
theorem dX12_readCrosses_98 : decode cX12_readCrosses 98 = .ok (.iaload, 1) := by decide +kernel
theorem dX12_readCrosses_99 : decode cX12_readCrosses 99 = .ok (.iconst 1, 1) := by decide +kernel
theorem dX12_readCrosses_100 : decode cX12_readCrosses 100 = .ok (.iload_n 2, 1) := by decide +kernel
theorem dX12_readCrosses_101 : decode cX12_readCrosses 101 = .ok (.ishl, 1) := by decide +kernel
theorem dX12_readCrosses_102 : decode cX12_readCrosses 102 = .ok (.ior, 1) := by decide +kernel
theorem dX12_readCrosses_103 : decode cX12_readCrosses 103 = .ok (.iastore, 1) := by decide +kernel
theorem dX12_readCrosses_104 : decode cX12_readCrosses 104 = .ok (.aload_n 0, 1) := by decide +kernel
theorem dX12_readCrosses_105 : decode cX12_readCrosses 105 = .ok (.getfield 83, 3) := by decide +kernel
theorem dX12_readCrosses_108 : decode cX12_readCrosses 108 = .ok (.bipush 44, 2) := by decide +kernel
theorem dX12_readCrosses_110 : decode cX12_readCrosses 110 = .ok (.iconst 2, 1) := by decide +kernel
theorem dX12_readCrosses_111 : decode cX12_readCrosses 111 = .ok (.iload_n 2, 1) := by decide +kernel
theorem dX12_readCrosses_112 : decode cX12_readCrosses 112 = .ok (.imul, 1) := by decide +kernel
theorem dX12_readCrosses_113 : decode cX12_readCrosses 113 = .ok (.iadd, 1) := by decide +kernel
theorem dX12_readCrosses_114 : decode cX12_readCrosses 114 = .ok (.iconst 1, 1) := by decide +kernel
theorem dX12_readCrosses_115 : decode cX12_readCrosses 115 = .ok (.iadd, 1) := by decide +kernel
theorem dX12_readCrosses_116 : decode cX12_readCrosses 116 = .ok (.dup2, 1) := by decide +kernel
theorem dX12_readCrosses_117 : decode cX12_readCrosses 117 = .ok (.iaload, 1) := by decide +kernel
theorem dX12_readCrosses_118 : decode cX12_readCrosses 118 = .ok (.iconst 1, 1) := by decide +kernel
theorem dX12_readCrosses_119 : decode cX12_readCrosses 119 = .ok (.iload_n 1, 1) := by decide +kernel
theorem dX12_readCrosses_120 : decode cX12_readCrosses 120 = .ok (.ishl, 1) := by decide +kernel
theorem dX12_readCrosses_121 : decode cX12_readCrosses 121 = .ok (.ior, 1) := by decide +kernel
theorem dX12_readCrosses_122 : decode cX12_readCrosses 122 = .ok (.iastore, 1) := by decide +kernel
theorem dX12_readCrosses_123 : decode cX12_readCrosses 123 = .ok (.return_, 1) := by decide +kernel
abbrev mX12_readCrosses : MI := (RX12, yX12_readCrosses, cX12_readCrosses, 4, none)
theorem cvX12_readCrosses : CV mX12_readCrosses 0 := ⟨⟨mw (i := 1494) (by decide +kernel), mw (i := 12) (by decide +kernel), ⟨by decide +kernel, by decide +kernel, by decide +kernel⟩, by decide⟩, mw (i := 1493) (by decide +kernel), mp2 (i := 57) 31 (by decide +kernel)⟩
def FX12_readCrosses (a0 : Nat) : PP Unit := bd (gI a0 7) (fun x1 => bd (sI a0 7 (x1 + (1 : Int32))) (fun (_ : Unit) => bd (FX12_takeTold a0 (1 : Int32) (0 : Int32)) (fun x2 => bd (FX12_toldHere a0 (1 : Int32) (0 : Int32)) (fun x3 => lt (((44 : Int32) + ((2 : Int32) * x2)) + (1 : Int32)) (fun y4 => bd (gI a0 8) (fun x5 => bd (if x5 = 0 then if x2 = x3 then bd (FX12_wrong a0 (3 : Int32)) (fun (_ : Unit) => pu ()) else bd (aI (rf a0 10) 80 y4) (fun x7 => if ((x7 >>> (x3 &&& 31)) &&& (1 : Int32)) = (1 : Int32) then bd (FX12_wrong a0 (3 : Int32)) (fun (_ : Unit) => pu ()) else pu ()) else pu () : PP (Unit)) (fun (v9 : Unit) => bd (gI a0 7) (fun x10 => bd (gI a0 8) (fun x11 => bd (if x11 ≤ 0 then pu (1 : Int32) else pu (0 : Int32) : PP (Int32)) (fun (v12 : Int32) => bd (sI a0 7 (x10 + v12)) (fun (_ : Unit) => bd (gI a0 8) (fun x13 => bd (if x13 = 0 then bd (aI (rf a0 10) 80 y4) (fun x14 => bd (uI (rf a0 10) 80 y4 (x14 ||| ((1 : Int32) <<< (x3 &&& 31)))) (fun (_ : Unit) => bd (aI (rf a0 10) 80 (((44 : Int32) + ((2 : Int32) * x3)) + (1 : Int32))) (fun x15 => bd (uI (rf a0 10) 80 (((44 : Int32) + ((2 : Int32) * x3)) + (1 : Int32)) (x15 ||| ((1 : Int32) <<< (x2 &&& 31)))) (fun (_ : Unit) => pu ())))) else pu () : PP (Unit)) (fun (v16 : Unit) => pu ())))))))))))))
set_option maxHeartbeats 4000000 in
set_option maxRecDepth 100000 in
theorem SX12_readCrosses {l : Launch} {K : KK} {n : Nat} {hn : 270 ≤ n} (a0 : Nat) (h0 : ob a0 11) : CT l K n 5 mX12_readCrosses [.ref (K.2.1 + a0)] enU (FX12_readCrosses a0) := by
  refine CT.of2 (lv2 := [(0, .ref (K.2.1 + a0))]) (by decide) rfl hn (Nat.le_of_ble_eq_true rfl) rfl (rp_id ?_)
  unfold FX12_readCrosses
  refine rp_aload_n 0 dX12_readCrosses_0 rfl ?_
  refine rp_dup dX12_readCrosses_1 rfl ?_
  refine rp_getI fi_X12_159 h0 rfl dX12_readCrosses_2 (fun x1 => ?_)
  refine rp_iconst (1 : Int32) dX12_readCrosses_5 (by decide) ?_
  refine rp_iadd dX12_readCrosses_6 ?_
  refine rp_putI fi_X12_159 fp_X12_7 h0 rfl dX12_readCrosses_7 ?_
  refine rp_aload_n 0 dX12_readCrosses_10 rfl ?_
  refine rp_iconst (1 : Int32) dX12_readCrosses_11 (by decide) ?_
  refine rp_iconst (0 : Int32) dX12_readCrosses_12 (by decide) ?_
  refine rp_callVi [.int (1 : Int32), .int (0 : Int32)] (SX12_takeTold (hn := hn) a0 (1 : Int32) (0 : Int32) h0) cvX12_takeTold (mw (i := 1495) (by decide +kernel)) (by omega) h0 (by decide) rfl rfl rfl (Nat.le_of_ble_eq_true rfl) dX12_readCrosses_13 (fun x2 => ?_)
  refine rp_istore_n [(1, .int x2), (0, .ref (K.2.1 + a0))] dX12_readCrosses_16 (by decide) rfl ?_
  refine rp_aload_n 1 dX12_readCrosses_17 rfl ?_
  refine rp_iconst (1 : Int32) dX12_readCrosses_18 (by decide) ?_
  refine rp_iconst (0 : Int32) dX12_readCrosses_19 (by decide) ?_
  refine rp_callVi [.int (1 : Int32), .int (0 : Int32)] (SX12_toldHere (hn := hn) a0 (1 : Int32) (0 : Int32) h0) cvX12_toldHere (mw (i := 1480) (by decide +kernel)) (by omega) h0 (by decide) rfl rfl rfl (Nat.le_of_ble_eq_true rfl) dX12_readCrosses_20 (fun x3 => ?_)
  refine rp_istore_n [(2, .int x3), (1, .int x2), (0, .ref (K.2.1 + a0))] dX12_readCrosses_23 (by decide) rfl ?_
  refine rp_bipush (44 : Int32) dX12_readCrosses_24 (by decide) ?_
  refine rp_iconst (2 : Int32) dX12_readCrosses_26 (by decide) ?_
  refine rp_iload_n 1 dX12_readCrosses_27 rfl ?_
  refine rp_imul dX12_readCrosses_28 ?_
  refine rp_iadd dX12_readCrosses_29 ?_
  refine rp_iconst (1 : Int32) dX12_readCrosses_30 (by decide) ?_
  refine rp_iadd dX12_readCrosses_31 ?_
  refine rp_lti (fun y4 => ?_)
  refine rp_istore_n [(3, .int y4), (2, .int x3), (1, .int x2), (0, .ref (K.2.1 + a0))] dX12_readCrosses_32 (by decide) rfl ?_
  refine rp_aload_n 3 dX12_readCrosses_33 rfl ?_
  refine rp_getI fi_X12_162 h0 rfl dX12_readCrosses_34 (fun x5 => ?_)
  refine rp_as ?_
  refine rp_join 64 (fun (v9 : Unit) => [(0, .ref (K.2.1 + a0)), (1, .int x2), (2, .int x3), (3, .int y4)]) (fun v9 => []) (fun v9 => ?_) (fun hJ64 => ?_)
  · refine rp_aload_n 0 dX12_readCrosses_64 rfl ?_
    refine rp_dup dX12_readCrosses_65 rfl ?_
    refine rp_getI fi_X12_159 h0 rfl dX12_readCrosses_66 (fun x10 => ?_)
    refine rp_aload_n 0 dX12_readCrosses_69 rfl ?_
    refine rp_getI fi_X12_162 h0 rfl dX12_readCrosses_70 (fun x11 => ?_)
    refine rp_as ?_
    refine rp_join 81 (fun (v12 : Int32) => [(0, .ref (K.2.1 + a0)), (1, .int x2), (2, .int x3), (3, .int y4)]) (fun v12 => [.int v12, .int x10, .ref (K.2.1 + a0)]) (fun v12 => ?_) (fun hJ81 => ?_)
    · refine rp_iadd dX12_readCrosses_81 ?_
      refine rp_putI fi_X12_159 fp_X12_7 h0 rfl dX12_readCrosses_82 ?_
      refine rp_aload_n 0 dX12_readCrosses_85 rfl ?_
      refine rp_getI fi_X12_162 h0 rfl dX12_readCrosses_86 (fun x13 => ?_)
      refine rp_as ?_
      refine rp_join 123 (fun (v16 : Unit) => []) (fun v16 => []) (fun v16 => ?_) (fun hJ123 => ?_)
      · exact rp_pu (rp_vret rfl dX12_readCrosses_123)
      refine rp_if_ne 123 dX12_readCrosses_89 (by decide) ?_ ?_
      · exact rp_sub [] rfl (rp_pu (hJ123 ()))
      · refine rp_aload_n 0 dX12_readCrosses_92 rfl ?_
        refine rp_getR fi_X12_83 h0 rfl dX12_readCrosses_93 ?_
        refine rp_iload_n 3 dX12_readCrosses_96 rfl ?_
        refine rp_dup2 dX12_readCrosses_97 rfl rfl ?_
        refine rp_iald (tX12_10 h0) dX12_readCrosses_98 (fun x14 => ?_)
        refine rp_iconst (1 : Int32) dX12_readCrosses_99 (by decide) ?_
        refine rp_iload_n 2 dX12_readCrosses_100 rfl ?_
        refine rp_ishl dX12_readCrosses_101 ?_
        refine rp_ior dX12_readCrosses_102 ?_
        refine rp_iast (tX12_10 h0) dX12_readCrosses_103 ?_
        refine rp_aload_n 0 dX12_readCrosses_104 rfl ?_
        refine rp_getR fi_X12_83 h0 rfl dX12_readCrosses_105 ?_
        refine rp_bipush (44 : Int32) dX12_readCrosses_108 (by decide) ?_
        refine rp_iconst (2 : Int32) dX12_readCrosses_110 (by decide) ?_
        refine rp_iload_n 2 dX12_readCrosses_111 rfl ?_
        refine rp_imul dX12_readCrosses_112 ?_
        refine rp_iadd dX12_readCrosses_113 ?_
        refine rp_iconst (1 : Int32) dX12_readCrosses_114 (by decide) ?_
        refine rp_iadd dX12_readCrosses_115 ?_
        refine rp_dup2 dX12_readCrosses_116 rfl rfl ?_
        refine rp_iald (tX12_10 h0) dX12_readCrosses_117 (fun x15 => ?_)
        refine rp_iconst (1 : Int32) dX12_readCrosses_118 (by decide) ?_
        refine rp_iload_n 1 dX12_readCrosses_119 rfl ?_
        refine rp_ishl dX12_readCrosses_120 ?_
        refine rp_ior dX12_readCrosses_121 ?_
        refine rp_iast (tX12_10 h0) dX12_readCrosses_122 ?_
        exact rp_sub [] rfl (rp_pu (hJ123 ()))
    refine rp_if_le 80 dX12_readCrosses_73 (by decide) ?_ ?_
    · refine rp_iconst (1 : Int32) dX12_readCrosses_80 (by decide) ?_
      exact rp_sub [0, 1, 2, 3] rfl (rp_pu (hJ81 (1 : Int32)))
    · refine rp_iconst (0 : Int32) dX12_readCrosses_76 (by decide) ?_
      refine rp_goto 81 dX12_readCrosses_77 (by decide) ?_
      exact rp_sub [0, 1, 2, 3] rfl (rp_pu (hJ81 (0 : Int32)))
  refine rp_if_ne 64 dX12_readCrosses_37 (by decide) ?_ ?_
  · exact rp_sub [3, 2, 1, 0] rfl (rp_pu (hJ64 ()))
  · refine rp_iload_n 2 dX12_readCrosses_40 rfl ?_
    refine rp_iload_n 1 dX12_readCrosses_41 rfl ?_
    refine rp_icmp_eq 59 dX12_readCrosses_42 (by decide) ?_ ?_
    · refine rp_aload_n 3 dX12_readCrosses_59 rfl ?_
      refine rp_iconst (3 : Int32) dX12_readCrosses_60 (by decide) ?_
      refine rp_callVv [.int (3 : Int32)] (SX12_wrong (hn := hn) a0 (3 : Int32) h0) cvX12_wrong (mw (i := 1444) (by decide +kernel)) (by omega) h0 (by decide) rfl rfl rfl (Nat.le_of_ble_eq_true rfl) dX12_readCrosses_61 (fun x6 => ?_)
      exact rp_sub [3, 2, 1, 0] rfl (rp_pu (hJ64 ()))
    · refine rp_aload_n 3 dX12_readCrosses_45 rfl ?_
      refine rp_getR fi_X12_83 h0 rfl dX12_readCrosses_46 ?_
      refine rp_iload_n 0 dX12_readCrosses_49 rfl ?_
      refine rp_iald (tX12_10 h0) dX12_readCrosses_50 (fun x7 => ?_)
      refine rp_iload_n 1 dX12_readCrosses_51 rfl ?_
      refine rp_ishr dX12_readCrosses_52 ?_
      refine rp_iconst (1 : Int32) dX12_readCrosses_53 (by decide) ?_
      refine rp_iand dX12_readCrosses_54 ?_
      refine rp_iconst (1 : Int32) dX12_readCrosses_55 (by decide) ?_
      refine rp_icmp_ne 64 dX12_readCrosses_56 (by decide) ?_ ?_
      · exact rp_sub [3, 2, 1, 0] rfl (rp_pu (hJ64 ()))
      · refine rp_aload_n 3 dX12_readCrosses_59 rfl ?_
        refine rp_iconst (3 : Int32) dX12_readCrosses_60 (by decide) ?_
        refine rp_callVv [.int (3 : Int32)] (SX12_wrong (hn := hn) a0 (3 : Int32) h0) cvX12_wrong (mw (i := 1444) (by decide +kernel)) (by omega) h0 (by decide) rfl rfl rfl (Nat.le_of_ble_eq_true rfl) dX12_readCrosses_61 (fun x8 => ?_)
        exact rp_sub [3, 2, 1, 0] rfl (rp_pu (hJ64 ()))

theorem dX12_emit_0 : decode cX12_emit 0 = .ok (.aload_n 0, 1) := by decide +kernel
theorem dX12_emit_1 : decode cX12_emit 1 = .ok (.getfield 86, 3) := by decide +kernel
theorem dX12_emit_4 : decode cX12_emit 4 = .ok (.sipush 1100, 3) := by decide +kernel
theorem dX12_emit_7 : decode cX12_emit 7 = .ok (.aload_n 0, 1) := by decide +kernel
theorem dX12_emit_8 : decode cX12_emit 8 = .ok (.getfield 212, 3) := by decide +kernel
theorem dX12_emit_11 : decode cX12_emit 11 = .ok (.iadd, 1) := by decide +kernel
theorem dX12_emit_12 : decode cX12_emit 12 = .ok (.iload_n 1, 1) := by decide +kernel
theorem dX12_emit_13 : decode cX12_emit 13 = .ok (.iastore, 1) := by decide +kernel
theorem dX12_emit_14 : decode cX12_emit 14 = .ok (.aload_n 0, 1) := by decide +kernel
theorem dX12_emit_15 : decode cX12_emit 15 = .ok (.getfield 89, 3) := by decide +kernel
theorem dX12_emit_18 : decode cX12_emit 18 = .ok (.sipush 1100, 3) := by decide +kernel
theorem dX12_emit_21 : decode cX12_emit 21 = .ok (.aload_n 0, 1) := by decide +kernel
theorem dX12_emit_22 : decode cX12_emit 22 = .ok (.getfield 212, 3) := by decide +kernel
theorem dX12_emit_25 : decode cX12_emit 25 = .ok (.iadd, 1) := by decide +kernel
theorem dX12_emit_26 : decode cX12_emit 26 = .ok (.iload_n 2, 1) := by decide +kernel
theorem dX12_emit_27 : decode cX12_emit 27 = .ok (.iastore, 1) := by decide +kernel
theorem dX12_emit_28 : decode cX12_emit 28 = .ok (.aload_n 0, 1) := by decide +kernel
theorem dX12_emit_29 : decode cX12_emit 29 = .ok (.dup, 1) := by decide +kernel
theorem dX12_emit_30 : decode cX12_emit 30 = .ok (.getfield 212, 3) := by decide +kernel
theorem dX12_emit_33 : decode cX12_emit 33 = .ok (.iconst 1, 1) := by decide +kernel
theorem dX12_emit_34 : decode cX12_emit 34 = .ok (.iadd, 1) := by decide +kernel
theorem dX12_emit_35 : decode cX12_emit 35 = .ok (.putfield 212, 3) := by decide +kernel
theorem dX12_emit_38 : decode cX12_emit 38 = .ok (.return_, 1) := by decide +kernel
abbrev mX12_emit : MI := (RX12, yX12_emit, cX12_emit, 3, none)
theorem cvX12_emit : CV mX12_emit 2 := ⟨⟨mw (i := 1530) (by decide +kernel), mw (i := 12) (by decide +kernel), ⟨by decide +kernel, by decide +kernel, by decide +kernel⟩, by decide⟩, mw (i := 1529) (by decide +kernel), mp2 (i := 66) 31 (by decide +kernel)⟩
def FX12_emit (a0 : Nat) (p1 : Int32) (p2 : Int32) : PP Unit := bd (gI a0 13) (fun x1 => bd (uI (rf a0 11) 2200 ((1100 : Int32) + x1) p1) (fun (_ : Unit) => bd (gI a0 13) (fun x2 => bd (uI (rf a0 12) 2200 ((1100 : Int32) + x2) p2) (fun (_ : Unit) => bd (gI a0 13) (fun x3 => bd (sI a0 13 (x3 + (1 : Int32))) (fun (_ : Unit) => pu ()))))))
set_option maxHeartbeats 4000000 in
set_option maxRecDepth 100000 in
theorem SX12_emit {l : Launch} {K : KK} {n : Nat} {hn : 270 ≤ n} (a0 : Nat) (p1 : Int32) (p2 : Int32) (h0 : ob a0 11) : CT l K n 0 mX12_emit [.ref (K.2.1 + a0), .int p1, .int p2] enU (FX12_emit a0 p1 p2) := by
  refine CT.of2 (lv2 := [(0, .ref (K.2.1 + a0)), (1, .int p1), (2, .int p2)]) (by decide) rfl hn (Nat.le_of_ble_eq_true rfl) rfl (rp_id ?_)
  unfold FX12_emit
  refine rp_aload_n 0 dX12_emit_0 rfl ?_
  refine rp_getR fi_X12_86 h0 rfl dX12_emit_1 ?_
  refine rp_sipush (1100 : Int32) dX12_emit_4 (by decide) ?_
  refine rp_aload_n 0 dX12_emit_7 rfl ?_
  refine rp_getI fi_X12_212 h0 rfl dX12_emit_8 (fun x1 => ?_)
  refine rp_iadd dX12_emit_11 ?_
  refine rp_iload_n 1 dX12_emit_12 rfl ?_
  refine rp_iast (tX12_11 h0) dX12_emit_13 ?_
  refine rp_aload_n 0 dX12_emit_14 rfl ?_
  refine rp_getR fi_X12_89 h0 rfl dX12_emit_15 ?_
  refine rp_sipush (1100 : Int32) dX12_emit_18 (by decide) ?_
  refine rp_aload_n 0 dX12_emit_21 rfl ?_
  refine rp_getI fi_X12_212 h0 rfl dX12_emit_22 (fun x2 => ?_)
  refine rp_iadd dX12_emit_25 ?_
  refine rp_iload_n 2 dX12_emit_26 rfl ?_
  refine rp_iast (tX12_12 h0) dX12_emit_27 ?_
  refine rp_aload_n 0 dX12_emit_28 rfl ?_
  refine rp_dup dX12_emit_29 rfl ?_
  refine rp_getI fi_X12_212 h0 rfl dX12_emit_30 (fun x3 => ?_)
  refine rp_iconst (1 : Int32) dX12_emit_33 (by decide) ?_
  refine rp_iadd dX12_emit_34 ?_
  refine rp_putI fi_X12_212 fp_X12_13 h0 rfl dX12_emit_35 ?_
  exact rp_pu (rp_vret rfl dX12_emit_38)

theorem dX12_products_0 : decode cX12_products 0 = .ok (.aload_n 0, 1) := by decide +kernel
theorem dX12_products_1 : decode cX12_products 1 = .ok (.iload_n 1, 1) := by decide +kernel
theorem dX12_products_2 : decode cX12_products 2 = .ok (.invokevirtual 263, 3) := by decide +kernel
theorem dX12_products_5 : decode cX12_products 5 = .ok (.aload_n 0, 1) := by decide +kernel
theorem dX12_products_6 : decode cX12_products 6 = .ok (.bipush 42, 2) := by decide +kernel
theorem dX12_products_8 : decode cX12_products 8 = .ok (.invokevirtual 257, 3) := by decide +kernel
theorem dX12_products_11 : decode cX12_products 11 = .ok (.ifCond .eq 18, 3) := by decide +kernel
theorem dX12_products_14 : decode cX12_products 14 = .ok (.aload_n 0, 1) := by decide +kernel
theorem dX12_products_15 : decode cX12_products 15 = .ok (.iload_n 1, 1) := by decide +kernel
theorem dX12_products_16 : decode cX12_products 16 = .ok (.invokevirtual 263, 3) := by decide +kernel
theorem dX12_products_19 : decode cX12_products 19 = .ok (.aload_n 0, 1) := by decide +kernel
theorem dX12_products_20 : decode cX12_products 20 = .ok (.bipush 6, 2) := by decide +kernel
theorem dX12_products_22 : decode cX12_products 22 = .ok (.iconst 0, 1) := by decide +kernel
theorem dX12_products_23 : decode cX12_products 23 = .ok (.invokevirtual 247, 3) := by decide +kernel
theorem dX12_products_26 : decode cX12_products 26 = .ok (.goto (-21), 3) := by decide +kernel
theorem dX12_products_29 : decode cX12_products 29 = .ok (.return_, 1) := by decide +kernel
abbrev mX12_products : MI := (RX12, yX12_products, cX12_products, 2, none)
theorem cvX12_products : CV mX12_products 1 := ⟨⟨mw (i := 1518) (by decide +kernel), mw (i := 12) (by decide +kernel), ⟨by decide +kernel, by decide +kernel, by decide +kernel⟩, by decide⟩, mw (i := 1517) (by decide +kernel), mp2 (i := 63) 31 (by decide +kernel)⟩
def FX12_products (self : Nat → Int32 → PP Unit) (a0 : Nat) (p1 : Int32) : PP Unit := bd (self a0 p1) (fun (_ : Unit) => bd (it (fun (s2 : Unit) => (bd (FX12_hasSign a0 (42 : Int32)) (fun x3 => if ((b2i x3)) = 0 then pu (Sum.inr ()) else bd (self a0 p1) (fun (_ : Unit) => bd (FX12_emit a0 (6 : Int32) (0 : Int32)) (fun (_ : Unit) => pu (Sum.inl ())))) : PP ((Unit) ⊕ (Unit)))) FU ()) (fun (v6 : Unit) => pu ()))
set_option maxHeartbeats 4000000 in
set_option maxRecDepth 100000 in
theorem SX12_products {l : Launch} {K : KK} {n : Nat} {dp : Nat} {self : Nat → Int32 → PP Unit} {hn : 270 ≤ n} (hs : ∀ (a0 : Nat) (p1 : Int32), ob a0 11 → CT l K n dp mX12_takePart [.ref (K.2.1 + a0), .int p1] enU (self a0 p1)) (a0 : Nat) (p1 : Int32) (h0 : ob a0 11) : CT l K n (dp + 2) mX12_products [.ref (K.2.1 + a0), .int p1] enU (FX12_products self a0 p1) := by
  refine CT.of2 (lv2 := [(0, .ref (K.2.1 + a0)), (1, .int p1)]) (by decide) rfl hn (Nat.le_of_ble_eq_true rfl) rfl (rp_id ?_)
  unfold FX12_products
  refine rp_aload_n 0 dX12_products_0 rfl ?_
  refine rp_iload_n 1 dX12_products_1 rfl ?_
  refine rp_callVv [.int p1] (hs a0 p1 h0) cvX12_takePart (mw (i := 1519) (by decide +kernel)) (by omega) h0 (by decide) rfl rfl rfl (Nat.le_of_ble_eq_true rfl) dX12_products_2 (fun x1 => ?_)
  refine rp_as ?_
  refine rp_join 29 (fun v6 => []) (fun _ => []) (fun v6 => ?_) (fun hX5_0 => ?_)
  · exact rp_pu (rp_vret rfl dX12_products_29)
  refine rp_sub [0, 1] rfl (rp_it (fun (s2 : Unit) => [(0, .ref (K.2.1 + a0)), (1, .int p1)]) (fun N5 ih5 s2 => ?_) FU ())
  refine rp_aload_n 0 dX12_products_5 rfl ?_
  refine rp_bipush (42 : Int32) dX12_products_6 (by decide) ?_
  refine rp_callVz [.int (42 : Int32)] (SX12_hasSign (hn := hn) a0 (42 : Int32) h0) cvX12_hasSign (mw (i := 1531) (by decide +kernel)) (by omega) h0 (by decide) rfl rfl rfl (Nat.le_of_ble_eq_true rfl) dX12_products_8 (fun x3 => ?_)
  refine rp_if_eq 29 dX12_products_11 (by decide) ?_ ?_
  · exact rp_sub [] rfl (rp_pu (hX5_0 ()))
  · refine rp_aload_n 0 dX12_products_14 rfl ?_
    refine rp_iload_n 1 dX12_products_15 rfl ?_
    refine rp_callVv [.int p1] (hs a0 p1 h0) cvX12_takePart (mw (i := 1519) (by decide +kernel)) (by omega) h0 (by decide) rfl rfl rfl (Nat.le_of_ble_eq_true rfl) dX12_products_16 (fun x4 => ?_)
    refine rp_aload_n 0 dX12_products_19 rfl ?_
    refine rp_bipush (6 : Int32) dX12_products_20 (by decide) ?_
    refine rp_iconst (0 : Int32) dX12_products_22 (by decide) ?_
    refine rp_callVv [.int (6 : Int32), .int (0 : Int32)] (SX12_emit (hn := hn) a0 (6 : Int32) (0 : Int32) h0) cvX12_emit (mw (i := 1527) (by decide +kernel)) (by omega) h0 (by decide) rfl rfl rfl (Nat.le_of_ble_eq_true rfl) dX12_products_23 (fun x5 => ?_)
    refine rp_goto 5 dX12_products_26 (by decide) ?_
    exact rp_sub [0, 1] rfl (ih5 ())

theorem dX12_sums_0 : decode cX12_sums 0 = .ok (.aload_n 0, 1) := by decide +kernel
theorem dX12_sums_1 : decode cX12_sums 1 = .ok (.iload_n 1, 1) := by decide +kernel
theorem dX12_sums_2 : decode cX12_sums 2 = .ok (.invokevirtual 260, 3) := by decide +kernel
theorem dX12_sums_5 : decode cX12_sums 5 = .ok (.aload_n 0, 1) := by decide +kernel
theorem dX12_sums_6 : decode cX12_sums 6 = .ok (.bipush 43, 2) := by decide +kernel
theorem dX12_sums_8 : decode cX12_sums 8 = .ok (.invokevirtual 165, 3) := by decide +kernel
theorem dX12_sums_11 : decode cX12_sums 11 = .ok (.ifCond .ne 12, 3) := by decide +kernel
theorem dX12_sums_14 : decode cX12_sums 14 = .ok (.aload_n 0, 1) := by decide +kernel
theorem dX12_sums_15 : decode cX12_sums 15 = .ok (.bipush 45, 2) := by decide +kernel
theorem dX12_sums_17 : decode cX12_sums 17 = .ok (.invokevirtual 165, 3) := by decide +kernel
theorem dX12_sums_20 : decode cX12_sums 20 = .ok (.ifCond .eq 42, 3) := by decide +kernel
theorem dX12_sums_23 : decode cX12_sums 23 = .ok (.aload_n 0, 1) := by decide +kernel
theorem dX12_sums_24 : decode cX12_sums 24 = .ok (.bipush 43, 2) := by decide +kernel
theorem dX12_sums_26 : decode cX12_sums 26 = .ok (.invokevirtual 165, 3) := by decide +kernel
theorem dX12_sums_29 : decode cX12_sums 29 = .ok (.istore_n 2, 1) := by decide +kernel
theorem dX12_sums_30 : decode cX12_sums 30 = .ok (.aload_n 0, 1) := by decide +kernel
theorem dX12_sums_31 : decode cX12_sums 31 = .ok (.dup, 1) := by decide +kernel
theorem dX12_sums_32 : decode cX12_sums 32 = .ok (.getfield 159, 3) := by decide +kernel
theorem dX12_sums_35 : decode cX12_sums 35 = .ok (.iconst 1, 1) := by decide +kernel
theorem dX12_sums_36 : decode cX12_sums 36 = .ok (.iadd, 1) := by decide +kernel
theorem dX12_sums_37 : decode cX12_sums 37 = .ok (.putfield 159, 3) := by decide +kernel
theorem dX12_sums_40 : decode cX12_sums 40 = .ok (.aload_n 0, 1) := by decide +kernel
theorem dX12_sums_41 : decode cX12_sums 41 = .ok (.iload_n 1, 1) := by decide +kernel
theorem dX12_sums_42 : decode cX12_sums 42 = .ok (.invokevirtual 260, 3) := by decide +kernel
theorem dX12_sums_45 : decode cX12_sums 45 = .ok (.aload_n 0, 1) := by decide +kernel
theorem dX12_sums_46 : decode cX12_sums 46 = .ok (.iload_n 2, 1) := by decide +kernel
theorem dX12_sums_47 : decode cX12_sums 47 = .ok (.ifCond .eq 7, 3) := by decide +kernel
theorem dX12_sums_50 : decode cX12_sums 50 = .ok (.iconst 4, 1) := by decide +kernel
theorem dX12_sums_51 : decode cX12_sums 51 = .ok (.goto 4, 3) := by decide +kernel
theorem dX12_sums_54 : decode cX12_sums 54 = .ok (.iconst 5, 1) := by decide +kernel
theorem dX12_sums_55 : decode cX12_sums 55 = .ok (.iconst 0, 1) := by decide +kernel
theorem dX12_sums_56 : decode cX12_sums 56 = .ok (.invokevirtual 247, 3) := by decide +kernel
theorem dX12_sums_59 : decode cX12_sums 59 = .ok (.goto (-54), 3) := by decide +kernel
theorem dX12_sums_62 : decode cX12_sums 62 = .ok (.return_, 1) := by decide +kernel
abbrev mX12_sums : MI := (RX12, yX12_sums, cX12_sums, 3, none)
theorem cvX12_sums : CV mX12_sums 1 := ⟨⟨mw (i := 1514) (by decide +kernel), mw (i := 12) (by decide +kernel), ⟨by decide +kernel, by decide +kernel, by decide +kernel⟩, by decide⟩, mw (i := 1513) (by decide +kernel), mp2 (i := 62) 31 (by decide +kernel)⟩
def FX12_sums (self : Nat → Int32 → PP Unit) (a0 : Nat) (p1 : Int32) : PP Unit := bd (FX12_products self a0 p1) (fun (_ : Unit) => bd (it (fun (s2 : Unit) => (bd (FX12_isSign a0 (43 : Int32)) (fun x3 => jn (fun (v6 : Unit) => bd (FX12_isSign a0 (43 : Int32)) (fun x7 => lt ((b2i x7)) (fun y8 => bd (gI a0 7) (fun x9 => bd (sI a0 7 (x9 + (1 : Int32))) (fun (_ : Unit) => bd (FX12_products self a0 p1) (fun (_ : Unit) => bd (if y8 = 0 then pu (5 : Int32) else pu (4 : Int32) : PP (Int32)) (fun (v11 : Int32) => bd (FX12_emit a0 v11 (0 : Int32)) (fun (_ : Unit) => pu (Sum.inl ()))))))))) (fun j4 => if ((b2i x3)) = 0 then bd (FX12_isSign a0 (45 : Int32)) (fun x5 => if ((b2i x5)) = 0 then pu (Sum.inr ()) else j4 ()) else j4 ())) : PP ((Unit) ⊕ (Unit)))) FU ()) (fun (v13 : Unit) => pu ()))
set_option maxHeartbeats 4000000 in
set_option maxRecDepth 100000 in
theorem SX12_sums {l : Launch} {K : KK} {n : Nat} {dp : Nat} {self : Nat → Int32 → PP Unit} {hn : 270 ≤ n} (hs : ∀ (a0 : Nat) (p1 : Int32), ob a0 11 → CT l K n dp mX12_takePart [.ref (K.2.1 + a0), .int p1] enU (self a0 p1)) (a0 : Nat) (p1 : Int32) (h0 : ob a0 11) : CT l K n (dp + 3) mX12_sums [.ref (K.2.1 + a0), .int p1] enU (FX12_sums self a0 p1) := by
  refine CT.of2 (lv2 := [(0, .ref (K.2.1 + a0)), (1, .int p1)]) (by decide) rfl hn (Nat.le_of_ble_eq_true rfl) rfl (rp_id ?_)
  unfold FX12_sums
  refine rp_aload_n 0 dX12_sums_0 rfl ?_
  refine rp_iload_n 1 dX12_sums_1 rfl ?_
  refine rp_callVv [.int p1] (SX12_products (hn := hn) hs a0 p1 h0) cvX12_products (mw (i := 1515) (by decide +kernel)) (by omega) h0 (by decide) rfl rfl rfl (Nat.le_of_ble_eq_true rfl) dX12_sums_2 (fun x1 => ?_)
  refine rp_as ?_
  refine rp_join 62 (fun v13 => []) (fun _ => []) (fun v13 => ?_) (fun hX5_0 => ?_)
  · exact rp_pu (rp_vret rfl dX12_sums_62)
  refine rp_sub [0, 1] rfl (rp_it (fun (s2 : Unit) => [(0, .ref (K.2.1 + a0)), (1, .int p1)]) (fun N5 ih5 s2 => ?_) FU ())
  refine rp_aload_n 0 dX12_sums_5 rfl ?_
  refine rp_bipush (43 : Int32) dX12_sums_6 (by decide) ?_
  refine rp_callVz [.int (43 : Int32)] (SX12_isSign (hn := hn) a0 (43 : Int32) h0) cvX12_isSign (mw (i := 1523) (by decide +kernel)) (by omega) h0 (by decide) rfl rfl rfl (Nat.le_of_ble_eq_true rfl) dX12_sums_8 (fun x3 => ?_)
  refine rp_jn2 23 (fun (v6 : Unit) => [(0, .ref (K.2.1 + a0)), (1, .int p1)]) (fun v6 => []) (fun v6 => ?_) (fun hK23 => ?_)
  · refine rp_aload_n 0 dX12_sums_23 rfl ?_
    refine rp_bipush (43 : Int32) dX12_sums_24 (by decide) ?_
    refine rp_callVz [.int (43 : Int32)] (SX12_isSign (hn := hn) a0 (43 : Int32) h0) cvX12_isSign (mw (i := 1523) (by decide +kernel)) (by omega) h0 (by decide) rfl rfl rfl (Nat.le_of_ble_eq_true rfl) dX12_sums_26 (fun x7 => ?_)
    refine rp_lti (fun y8 => ?_)
    refine rp_istore_n [(2, .int y8), (0, .ref (K.2.1 + a0)), (1, .int p1)] dX12_sums_29 (by decide) rfl ?_
    refine rp_aload_n 1 dX12_sums_30 rfl ?_
    refine rp_dup dX12_sums_31 rfl ?_
    refine rp_getI fi_X12_159 h0 rfl dX12_sums_32 (fun x9 => ?_)
    refine rp_iconst (1 : Int32) dX12_sums_35 (by decide) ?_
    refine rp_iadd dX12_sums_36 ?_
    refine rp_putI fi_X12_159 fp_X12_7 h0 rfl dX12_sums_37 ?_
    refine rp_aload_n 1 dX12_sums_40 rfl ?_
    refine rp_iload_n 2 dX12_sums_41 rfl ?_
    refine rp_callVv [.int p1] (SX12_products (hn := hn) hs a0 p1 h0) cvX12_products (mw (i := 1515) (by decide +kernel)) (by omega) h0 (by decide) rfl rfl rfl (Nat.le_of_ble_eq_true rfl) dX12_sums_42 (fun x10 => ?_)
    refine rp_aload_n 1 dX12_sums_45 rfl ?_
    refine rp_iload_n 0 dX12_sums_46 rfl ?_
    refine rp_as ?_
    refine rp_join 55 (fun (v11 : Int32) => [(0, .ref (K.2.1 + a0)), (1, .int p1)]) (fun v11 => [.int v11, .ref (K.2.1 + a0)]) (fun v11 => ?_) (fun hJ55 => ?_)
    · refine rp_iconst (0 : Int32) dX12_sums_55 (by decide) ?_
      refine rp_callVv [.int v11, .int (0 : Int32)] (SX12_emit (hn := hn) a0 v11 (0 : Int32) h0) cvX12_emit (mw (i := 1527) (by decide +kernel)) (by omega) h0 (by decide) rfl rfl rfl (Nat.le_of_ble_eq_true rfl) dX12_sums_56 (fun x12 => ?_)
      refine rp_goto 5 dX12_sums_59 (by decide) ?_
      exact rp_sub [0, 1] rfl (ih5 ())
    refine rp_if_eq 54 dX12_sums_47 (by decide) ?_ ?_
    · refine rp_iconst (5 : Int32) dX12_sums_54 (by decide) ?_
      exact rp_sub [1, 2] rfl (rp_pu (hJ55 (5 : Int32)))
    · refine rp_iconst (4 : Int32) dX12_sums_50 (by decide) ?_
      refine rp_goto 55 dX12_sums_51 (by decide) ?_
      exact rp_sub [1, 2] rfl (rp_pu (hJ55 (4 : Int32)))
  refine rp_if_ne 23 dX12_sums_11 (by decide) ?_ ?_
  · exact rp_sub [0, 1] rfl (hK23 ())
  · refine rp_aload_n 0 dX12_sums_14 rfl ?_
    refine rp_bipush (45 : Int32) dX12_sums_15 (by decide) ?_
    refine rp_callVz [.int (45 : Int32)] (SX12_isSign (hn := hn) a0 (45 : Int32) h0) cvX12_isSign (mw (i := 1523) (by decide +kernel)) (by omega) h0 (by decide) rfl rfl rfl (Nat.le_of_ble_eq_true rfl) dX12_sums_17 (fun x5 => ?_)
    refine rp_if_eq 62 dX12_sums_20 (by decide) ?_ ?_
    · exact rp_sub [] rfl (rp_pu (hX5_0 ()))
    · exact rp_sub [0, 1] rfl (hK23 ())

theorem dX12_test_0 : decode cX12_test 0 = .ok (.aload_n 0, 1) := by decide +kernel
theorem dX12_test_1 : decode cX12_test 1 = .ok (.iload_n 1, 1) := by decide +kernel
theorem dX12_test_2 : decode cX12_test 2 = .ok (.invokevirtual 254, 3) := by decide +kernel
theorem dX12_test_5 : decode cX12_test 5 = .ok (.aload_n 0, 1) := by decide +kernel
theorem dX12_test_6 : decode cX12_test 6 = .ok (.bipush 60, 2) := by decide +kernel
theorem dX12_test_8 : decode cX12_test 8 = .ok (.invokevirtual 165, 3) := by decide +kernel
theorem dX12_test_11 : decode cX12_test 11 = .ok (.istore_n 2, 1) := by decide +kernel
theorem dX12_test_12 : decode cX12_test 12 = .ok (.aload_n 0, 1) := by decide +kernel
theorem dX12_test_13 : decode cX12_test 13 = .ok (.bipush 60, 2) := by decide +kernel
theorem dX12_test_15 : decode cX12_test 15 = .ok (.invokevirtual 257, 3) := by decide +kernel
theorem dX12_test_18 : decode cX12_test 18 = .ok (.ifCond .ne 12, 3) := by decide +kernel
theorem dX12_test_21 : decode cX12_test 21 = .ok (.aload_n 0, 1) := by decide +kernel
theorem dX12_test_22 : decode cX12_test 22 = .ok (.bipush 61, 2) := by decide +kernel
theorem dX12_test_24 : decode cX12_test 24 = .ok (.invokevirtual 257, 3) := by decide +kernel
theorem dX12_test_27 : decode cX12_test 27 = .ok (.ifCond .eq 24, 3) := by decide +kernel
theorem dX12_test_30 : decode cX12_test 30 = .ok (.aload_n 0, 1) := by decide +kernel
theorem dX12_test_31 : decode cX12_test 31 = .ok (.iload_n 1, 1) := by decide +kernel
theorem dX12_test_32 : decode cX12_test 32 = .ok (.invokevirtual 254, 3) := by decide +kernel
theorem dX12_test_35 : decode cX12_test 35 = .ok (.aload_n 0, 1) := by decide +kernel
theorem dX12_test_36 : decode cX12_test 36 = .ok (.iload_n 2, 1) := by decide +kernel
theorem dX12_test_37 : decode cX12_test 37 = .ok (.ifCond .eq 8, 3) := by decide +kernel
theorem dX12_test_40 : decode cX12_test 40 = .ok (.bipush 7, 2) := by decide +kernel
theorem dX12_test_42 : decode cX12_test 42 = .ok (.goto 5, 3) := by decide +kernel
theorem dX12_test_45 : decode cX12_test 45 = .ok (.bipush 8, 2) := by decide +kernel
theorem dX12_test_47 : decode cX12_test 47 = .ok (.iconst 0, 1) := by decide +kernel
theorem dX12_test_48 : decode cX12_test 48 = .ok (.invokevirtual 247, 3) := by decide +kernel
theorem dX12_test_51 : decode cX12_test 51 = .ok (.return_, 1) := by decide +kernel
abbrev mX12_test : MI := (RX12, yX12_test, cX12_test, 3, none)
theorem cvX12_test : CV mX12_test 1 := ⟨⟨mw (i := 1510) (by decide +kernel), mw (i := 12) (by decide +kernel), ⟨by decide +kernel, by decide +kernel, by decide +kernel⟩, by decide⟩, mw (i := 1509) (by decide +kernel), mp2 (i := 61) 31 (by decide +kernel)⟩
def FX12_test (self : Nat → Int32 → PP Unit) (a0 : Nat) (p1 : Int32) : PP Unit := bd (FX12_sums self a0 p1) (fun (_ : Unit) => bd (FX12_isSign a0 (60 : Int32)) (fun x2 => lt ((b2i x2)) (fun y3 => bd (FX12_hasSign a0 (60 : Int32)) (fun x4 => bd (jn (fun (v7 : Unit) => bd (FX12_sums self a0 p1) (fun (_ : Unit) => bd (if y3 = 0 then pu (8 : Int32) else pu (7 : Int32) : PP (Int32)) (fun (v9 : Int32) => bd (FX12_emit a0 v9 (0 : Int32)) (fun (_ : Unit) => pu ())))) (fun j5 => if ((b2i x4)) = 0 then bd (FX12_hasSign a0 (61 : Int32)) (fun x6 => if ((b2i x6)) = 0 then pu () else j5 ()) else j5 ()) : PP (Unit)) (fun (v11 : Unit) => pu ())))))
set_option maxHeartbeats 4000000 in
set_option maxRecDepth 100000 in
theorem SX12_test {l : Launch} {K : KK} {n : Nat} {dp : Nat} {self : Nat → Int32 → PP Unit} {hn : 270 ≤ n} (hs : ∀ (a0 : Nat) (p1 : Int32), ob a0 11 → CT l K n dp mX12_takePart [.ref (K.2.1 + a0), .int p1] enU (self a0 p1)) (a0 : Nat) (p1 : Int32) (h0 : ob a0 11) : CT l K n (dp + 4) mX12_test [.ref (K.2.1 + a0), .int p1] enU (FX12_test self a0 p1) := by
  refine CT.of2 (lv2 := [(0, .ref (K.2.1 + a0)), (1, .int p1)]) (by decide) rfl hn (Nat.le_of_ble_eq_true rfl) rfl (rp_id ?_)
  unfold FX12_test
  refine rp_aload_n 0 dX12_test_0 rfl ?_
  refine rp_iload_n 1 dX12_test_1 rfl ?_
  refine rp_callVv [.int p1] (SX12_sums (hn := hn) hs a0 p1 h0) cvX12_sums (mw (i := 1511) (by decide +kernel)) (by omega) h0 (by decide) rfl rfl rfl (Nat.le_of_ble_eq_true rfl) dX12_test_2 (fun x1 => ?_)
  refine rp_aload_n 0 dX12_test_5 rfl ?_
  refine rp_bipush (60 : Int32) dX12_test_6 (by decide) ?_
  refine rp_callVz [.int (60 : Int32)] (SX12_isSign (hn := hn) a0 (60 : Int32) h0) cvX12_isSign (mw (i := 1523) (by decide +kernel)) (by omega) h0 (by decide) rfl rfl rfl (Nat.le_of_ble_eq_true rfl) dX12_test_8 (fun x2 => ?_)
  refine rp_lti (fun y3 => ?_)
  refine rp_istore_n [(2, .int y3), (0, .ref (K.2.1 + a0)), (1, .int p1)] dX12_test_11 (by decide) rfl ?_
  refine rp_aload_n 1 dX12_test_12 rfl ?_
  refine rp_bipush (60 : Int32) dX12_test_13 (by decide) ?_
  refine rp_callVz [.int (60 : Int32)] (SX12_hasSign (hn := hn) a0 (60 : Int32) h0) cvX12_hasSign (mw (i := 1531) (by decide +kernel)) (by omega) h0 (by decide) rfl rfl rfl (Nat.le_of_ble_eq_true rfl) dX12_test_15 (fun x4 => ?_)
  refine rp_as ?_
  refine rp_join 51 (fun (v11 : Unit) => []) (fun v11 => []) (fun v11 => ?_) (fun hJ51 => ?_)
  · exact rp_pu (rp_vret rfl dX12_test_51)
  refine rp_jn2 30 (fun (v7 : Unit) => [(0, .ref (K.2.1 + a0)), (1, .int p1), (2, .int y3)]) (fun v7 => []) (fun v7 => ?_) (fun hK30 => ?_)
  · refine rp_aload_n 0 dX12_test_30 rfl ?_
    refine rp_iload_n 1 dX12_test_31 rfl ?_
    refine rp_callVv [.int p1] (SX12_sums (hn := hn) hs a0 p1 h0) cvX12_sums (mw (i := 1511) (by decide +kernel)) (by omega) h0 (by decide) rfl rfl rfl (Nat.le_of_ble_eq_true rfl) dX12_test_32 (fun x8 => ?_)
    refine rp_aload_n 0 dX12_test_35 rfl ?_
    refine rp_iload_n 2 dX12_test_36 rfl ?_
    refine rp_as ?_
    refine rp_join 47 (fun (v9 : Int32) => []) (fun v9 => [.int v9, .ref (K.2.1 + a0)]) (fun v9 => ?_) (fun hJ47 => ?_)
    · refine rp_iconst (0 : Int32) dX12_test_47 (by decide) ?_
      refine rp_callVv [.int v9, .int (0 : Int32)] (SX12_emit (hn := hn) a0 v9 (0 : Int32) h0) cvX12_emit (mw (i := 1527) (by decide +kernel)) (by omega) h0 (by decide) rfl rfl rfl (Nat.le_of_ble_eq_true rfl) dX12_test_48 (fun x10 => ?_)
      exact rp_sub [] rfl (rp_pu (hJ51 ()))
    refine rp_if_eq 45 dX12_test_37 (by decide) ?_ ?_
    · refine rp_bipush (8 : Int32) dX12_test_45 (by decide) ?_
      exact rp_sub [] rfl (rp_pu (hJ47 (8 : Int32)))
    · refine rp_bipush (7 : Int32) dX12_test_40 (by decide) ?_
      refine rp_goto 47 dX12_test_42 (by decide) ?_
      exact rp_sub [] rfl (rp_pu (hJ47 (7 : Int32)))
  refine rp_if_ne 30 dX12_test_18 (by decide) ?_ ?_
  · exact rp_sub [1, 2, 0] rfl (hK30 ())
  · refine rp_aload_n 1 dX12_test_21 rfl ?_
    refine rp_bipush (61 : Int32) dX12_test_22 (by decide) ?_
    refine rp_callVz [.int (61 : Int32)] (SX12_hasSign (hn := hn) a0 (61 : Int32) h0) cvX12_hasSign (mw (i := 1531) (by decide +kernel)) (by omega) h0 (by decide) rfl rfl rfl (Nat.le_of_ble_eq_true rfl) dX12_test_24 (fun x6 => ?_)
    refine rp_if_eq 51 dX12_test_27 (by decide) ?_ ?_
    · exact rp_sub [] rfl (rp_pu (hJ51 ()))
    · exact rp_sub [1, 2, 0] rfl (hK30 ())

theorem dX12_whole_0 : decode cX12_whole 0 = .ok (.aload_n 0, 1) := by decide +kernel
theorem dX12_whole_1 : decode cX12_whole 1 = .ok (.iload_n 1, 1) := by decide +kernel
theorem dX12_whole_2 : decode cX12_whole 2 = .ok (.invokevirtual 251, 3) := by decide +kernel
theorem dX12_whole_5 : decode cX12_whole 5 = .ok (.aload_n 0, 1) := by decide +kernel
theorem dX12_whole_6 : decode cX12_whole 6 = .ok (.bipush 17, 2) := by decide +kernel
theorem dX12_whole_8 : decode cX12_whole 8 = .ok (.invokevirtual 171, 3) := by decide +kernel
theorem dX12_whole_11 : decode cX12_whole 11 = .ok (.ifCond .ne 12, 3) := by decide +kernel
theorem dX12_whole_14 : decode cX12_whole 14 = .ok (.aload_n 0, 1) := by decide +kernel
theorem dX12_whole_15 : decode cX12_whole 15 = .ok (.bipush 18, 2) := by decide +kernel
theorem dX12_whole_17 : decode cX12_whole 17 = .ok (.invokevirtual 171, 3) := by decide +kernel
theorem dX12_whole_20 : decode cX12_whole 20 = .ok (.ifCond .eq 44, 3) := by decide +kernel
theorem dX12_whole_23 : decode cX12_whole 23 = .ok (.aload_n 0, 1) := by decide +kernel
theorem dX12_whole_24 : decode cX12_whole 24 = .ok (.bipush 17, 2) := by decide +kernel
theorem dX12_whole_26 : decode cX12_whole 26 = .ok (.invokevirtual 171, 3) := by decide +kernel
theorem dX12_whole_29 : decode cX12_whole 29 = .ok (.istore_n 2, 1) := by decide +kernel
theorem dX12_whole_30 : decode cX12_whole 30 = .ok (.aload_n 0, 1) := by decide +kernel
theorem dX12_whole_31 : decode cX12_whole 31 = .ok (.dup, 1) := by decide +kernel
theorem dX12_whole_32 : decode cX12_whole 32 = .ok (.getfield 159, 3) := by decide +kernel
theorem dX12_whole_35 : decode cX12_whole 35 = .ok (.iconst 1, 1) := by decide +kernel
theorem dX12_whole_36 : decode cX12_whole 36 = .ok (.iadd, 1) := by decide +kernel
theorem dX12_whole_37 : decode cX12_whole 37 = .ok (.putfield 159, 3) := by decide +kernel
theorem dX12_whole_40 : decode cX12_whole 40 = .ok (.aload_n 0, 1) := by decide +kernel
theorem dX12_whole_41 : decode cX12_whole 41 = .ok (.iload_n 1, 1) := by decide +kernel
theorem dX12_whole_42 : decode cX12_whole 42 = .ok (.invokevirtual 251, 3) := by decide +kernel
theorem dX12_whole_45 : decode cX12_whole 45 = .ok (.aload_n 0, 1) := by decide +kernel
theorem dX12_whole_46 : decode cX12_whole 46 = .ok (.iload_n 2, 1) := by decide +kernel
theorem dX12_whole_47 : decode cX12_whole 47 = .ok (.ifCond .eq 8, 3) := by decide +kernel
theorem dX12_whole_50 : decode cX12_whole 50 = .ok (.bipush 9, 2) := by decide +kernel
theorem dX12_whole_52 : decode cX12_whole 52 = .ok (.goto 5, 3) := by decide +kernel
theorem dX12_whole_55 : decode cX12_whole 55 = .ok (.bipush 10, 2) := by decide +kernel
theorem dX12_whole_57 : decode cX12_whole 57 = .ok (.iconst 0, 1) := by decide +kernel
theorem dX12_whole_58 : decode cX12_whole 58 = .ok (.invokevirtual 247, 3) := by decide +kernel
theorem dX12_whole_61 : decode cX12_whole 61 = .ok (.goto (-56), 3) := by decide +kernel
theorem dX12_whole_64 : decode cX12_whole 64 = .ok (.return_, 1) := by decide +kernel
abbrev mX12_whole : MI := (RX12, yX12_whole, cX12_whole, 3, none)
theorem cvX12_whole : CV mX12_whole 1 := ⟨⟨mw (i := 1506) (by decide +kernel), mw (i := 12) (by decide +kernel), ⟨by decide +kernel, by decide +kernel, by decide +kernel⟩, by decide⟩, mw (i := 1505) (by decide +kernel), mp2 (i := 60) 31 (by decide +kernel)⟩
def FX12_whole (self : Nat → Int32 → PP Unit) (a0 : Nat) (p1 : Int32) : PP Unit := bd (FX12_test self a0 p1) (fun (_ : Unit) => bd (it (fun (s2 : Unit) => (bd (FX12_isWord a0 (17 : Int32)) (fun x3 => jn (fun (v6 : Unit) => bd (FX12_isWord a0 (17 : Int32)) (fun x7 => lt ((b2i x7)) (fun y8 => bd (gI a0 7) (fun x9 => bd (sI a0 7 (x9 + (1 : Int32))) (fun (_ : Unit) => bd (FX12_test self a0 p1) (fun (_ : Unit) => bd (if y8 = 0 then pu (10 : Int32) else pu (9 : Int32) : PP (Int32)) (fun (v11 : Int32) => bd (FX12_emit a0 v11 (0 : Int32)) (fun (_ : Unit) => pu (Sum.inl ()))))))))) (fun j4 => if ((b2i x3)) = 0 then bd (FX12_isWord a0 (18 : Int32)) (fun x5 => if ((b2i x5)) = 0 then pu (Sum.inr ()) else j4 ()) else j4 ())) : PP ((Unit) ⊕ (Unit)))) FU ()) (fun (v13 : Unit) => pu ()))
set_option maxHeartbeats 4000000 in
set_option maxRecDepth 100000 in
theorem SX12_whole {l : Launch} {K : KK} {n : Nat} {dp : Nat} {self : Nat → Int32 → PP Unit} {hn : 270 ≤ n} (hs : ∀ (a0 : Nat) (p1 : Int32), ob a0 11 → CT l K n dp mX12_takePart [.ref (K.2.1 + a0), .int p1] enU (self a0 p1)) (a0 : Nat) (p1 : Int32) (h0 : ob a0 11) : CT l K n (dp + 5) mX12_whole [.ref (K.2.1 + a0), .int p1] enU (FX12_whole self a0 p1) := by
  refine CT.of2 (lv2 := [(0, .ref (K.2.1 + a0)), (1, .int p1)]) (by decide) rfl hn (Nat.le_of_ble_eq_true rfl) rfl (rp_id ?_)
  unfold FX12_whole
  refine rp_aload_n 0 dX12_whole_0 rfl ?_
  refine rp_iload_n 1 dX12_whole_1 rfl ?_
  refine rp_callVv [.int p1] (SX12_test (hn := hn) hs a0 p1 h0) cvX12_test (mw (i := 1507) (by decide +kernel)) (by omega) h0 (by decide) rfl rfl rfl (Nat.le_of_ble_eq_true rfl) dX12_whole_2 (fun x1 => ?_)
  refine rp_as ?_
  refine rp_join 64 (fun v13 => []) (fun _ => []) (fun v13 => ?_) (fun hX5_0 => ?_)
  · exact rp_pu (rp_vret rfl dX12_whole_64)
  refine rp_sub [0, 1] rfl (rp_it (fun (s2 : Unit) => [(0, .ref (K.2.1 + a0)), (1, .int p1)]) (fun N5 ih5 s2 => ?_) FU ())
  refine rp_aload_n 0 dX12_whole_5 rfl ?_
  refine rp_bipush (17 : Int32) dX12_whole_6 (by decide) ?_
  refine rp_callVz [.int (17 : Int32)] (SX12_isWord (hn := hn) a0 (17 : Int32) h0) cvX12_isWord (mw (i := 1436) (by decide +kernel)) (by omega) h0 (by decide) rfl rfl rfl (Nat.le_of_ble_eq_true rfl) dX12_whole_8 (fun x3 => ?_)
  refine rp_jn2 23 (fun (v6 : Unit) => [(0, .ref (K.2.1 + a0)), (1, .int p1)]) (fun v6 => []) (fun v6 => ?_) (fun hK23 => ?_)
  · refine rp_aload_n 0 dX12_whole_23 rfl ?_
    refine rp_bipush (17 : Int32) dX12_whole_24 (by decide) ?_
    refine rp_callVz [.int (17 : Int32)] (SX12_isWord (hn := hn) a0 (17 : Int32) h0) cvX12_isWord (mw (i := 1436) (by decide +kernel)) (by omega) h0 (by decide) rfl rfl rfl (Nat.le_of_ble_eq_true rfl) dX12_whole_26 (fun x7 => ?_)
    refine rp_lti (fun y8 => ?_)
    refine rp_istore_n [(2, .int y8), (0, .ref (K.2.1 + a0)), (1, .int p1)] dX12_whole_29 (by decide) rfl ?_
    refine rp_aload_n 1 dX12_whole_30 rfl ?_
    refine rp_dup dX12_whole_31 rfl ?_
    refine rp_getI fi_X12_159 h0 rfl dX12_whole_32 (fun x9 => ?_)
    refine rp_iconst (1 : Int32) dX12_whole_35 (by decide) ?_
    refine rp_iadd dX12_whole_36 ?_
    refine rp_putI fi_X12_159 fp_X12_7 h0 rfl dX12_whole_37 ?_
    refine rp_aload_n 1 dX12_whole_40 rfl ?_
    refine rp_iload_n 2 dX12_whole_41 rfl ?_
    refine rp_callVv [.int p1] (SX12_test (hn := hn) hs a0 p1 h0) cvX12_test (mw (i := 1507) (by decide +kernel)) (by omega) h0 (by decide) rfl rfl rfl (Nat.le_of_ble_eq_true rfl) dX12_whole_42 (fun x10 => ?_)
    refine rp_aload_n 1 dX12_whole_45 rfl ?_
    refine rp_iload_n 0 dX12_whole_46 rfl ?_
    refine rp_as ?_
    refine rp_join 57 (fun (v11 : Int32) => [(0, .ref (K.2.1 + a0)), (1, .int p1)]) (fun v11 => [.int v11, .ref (K.2.1 + a0)]) (fun v11 => ?_) (fun hJ57 => ?_)
    · refine rp_iconst (0 : Int32) dX12_whole_57 (by decide) ?_
      refine rp_callVv [.int v11, .int (0 : Int32)] (SX12_emit (hn := hn) a0 v11 (0 : Int32) h0) cvX12_emit (mw (i := 1527) (by decide +kernel)) (by omega) h0 (by decide) rfl rfl rfl (Nat.le_of_ble_eq_true rfl) dX12_whole_58 (fun x12 => ?_)
      refine rp_goto 5 dX12_whole_61 (by decide) ?_
      exact rp_sub [0, 1] rfl (ih5 ())
    refine rp_if_eq 55 dX12_whole_47 (by decide) ?_ ?_
    · refine rp_bipush (10 : Int32) dX12_whole_55 (by decide) ?_
      exact rp_sub [1, 2] rfl (rp_pu (hJ57 (10 : Int32)))
    · refine rp_bipush (9 : Int32) dX12_whole_50 (by decide) ?_
      refine rp_goto 57 dX12_whole_52 (by decide) ?_
      exact rp_sub [1, 2] rfl (rp_pu (hJ57 (9 : Int32)))
  refine rp_if_ne 23 dX12_whole_11 (by decide) ?_ ?_
  · exact rp_sub [0, 1] rfl (hK23 ())
  · refine rp_aload_n 0 dX12_whole_14 rfl ?_
    refine rp_bipush (18 : Int32) dX12_whole_15 (by decide) ?_
    refine rp_callVz [.int (18 : Int32)] (SX12_isWord (hn := hn) a0 (18 : Int32) h0) cvX12_isWord (mw (i := 1436) (by decide +kernel)) (by omega) h0 (by decide) rfl rfl rfl (Nat.le_of_ble_eq_true rfl) dX12_whole_17 (fun x5 => ?_)
    refine rp_if_eq 64 dX12_whole_20 (by decide) ?_ ?_
    · exact rp_sub [] rfl (rp_pu (hX5_0 ()))
    · exact rp_sub [0, 1] rfl (hK23 ())

theorem dX12_takePart_0 : decode cX12_takePart 0 = .ok (.aload_n 0, 1) := by decide +kernel
theorem dX12_takePart_1 : decode cX12_takePart 1 = .ok (.getfield 162, 3) := by decide +kernel
theorem dX12_takePart_4 : decode cX12_takePart 4 = .ok (.ifCond .le 4, 3) := by decide +kernel
theorem dX12_takePart_7 : decode cX12_takePart 7 = .ok (.return_, 1) := by decide +kernel
theorem dX12_takePart_8 : decode cX12_takePart 8 = .ok (.aload_n 0, 1) := by decide +kernel
theorem dX12_takePart_9 : decode cX12_takePart 9 = .ok (.getfield 24, 3) := by decide +kernel
theorem dX12_takePart_12 : decode cX12_takePart 12 = .ok (.aload_n 0, 1) := by decide +kernel
theorem dX12_takePart_13 : decode cX12_takePart 13 = .ok (.getfield 159, 3) := by decide +kernel
theorem dX12_takePart_16 : decode cX12_takePart 16 = .ok (.iaload, 1) := by decide +kernel
theorem dX12_takePart_17 : decode cX12_takePart 17 = .ok (.iconst 2, 1) := by decide +kernel
theorem dX12_takePart_18 : decode cX12_takePart 18 = .ok (.if_icmp .ne 7, 3) := by decide +kernel
theorem dX12_takePart_21 : decode cX12_takePart 21 = .ok (.iconst 1, 1) := by decide +kernel
theorem dX12_takePart_22 : decode cX12_takePart 22 = .ok (.goto 4, 3) := by decide +kernel
theorem dX12_takePart_25 : decode cX12_takePart 25 = .ok (.iconst 0, 1) := by decide +kernel
theorem dX12_takePart_26 : decode cX12_takePart 26 = .ok (.istore_n 2, 1) := by decide +kernel
theorem dX12_takePart_27 : decode cX12_takePart 27 = .ok (.aload_n 0, 1) := by decide +kernel
theorem dX12_takePart_28 : decode cX12_takePart 28 = .ok (.bipush 19, 2) := by decide +kernel
theorem dX12_takePart_30 : decode cX12_takePart 30 = .ok (.iconst 4, 1) := by decide +kernel
theorem dX12_takePart_31 : decode cX12_takePart 31 = .ok (.invokevirtual 184, 3) := by decide +kernel
theorem dX12_takePart_34 : decode cX12_takePart 34 = .ok (.istore_n 3, 1) := by decide +kernel
theorem dX12_takePart_35 : decode cX12_takePart 35 = .ok (.iload_n 3, 1) := by decide +kernel
theorem dX12_takePart_36 : decode cX12_takePart 36 = .ok (.ifCond .ge 33, 3) := by decide +kernel
theorem dX12_takePart_39 : decode cX12_takePart 39 = .ok (.iload_n 2, 1) := by decide +kernel
theorem dX12_takePart_40 : decode cX12_takePart 40 = .ok (.ifCond .ne 29, 3) := by decide +kernel
theorem dX12_takePart_43 : decode cX12_takePart 43 = .ok (.aload_n 0, 1) := by decide +kernel
theorem dX12_takePart_44 : decode cX12_takePart 44 = .ok (.bipush 40, 2) := by decide +kernel
theorem dX12_takePart_46 : decode cX12_takePart 46 = .ok (.invokevirtual 165, 3) := by decide +kernel
theorem dX12_takePart_49 : decode cX12_takePart 49 = .ok (.ifCond .ne 20, 3) := by decide +kernel
theorem dX12_takePart_52 : decode cX12_takePart 52 = .ok (.aload_n 0, 1) := by decide +kernel
theorem dX12_takePart_53 : decode cX12_takePart 53 = .ok (.bipush 16, 2) := by decide +kernel
theorem dX12_takePart_55 : decode cX12_takePart 55 = .ok (.invokevirtual 171, 3) := by decide +kernel
theorem dX12_takePart_58 : decode cX12_takePart 58 = .ok (.ifCond .ne 11, 3) := by decide +kernel
theorem dX12_takePart_61 : decode cX12_takePart 61 = .ok (.aload_n 0, 1) := by decide +kernel
theorem dX12_takePart_62 : decode cX12_takePart 62 = .ok (.iconst 1, 1) := by decide +kernel
theorem dX12_takePart_63 : decode cX12_takePart 63 = .ok (.invokevirtual 168, 3) := by decide +kernel
theorem dX12_takePart_66 : decode cX12_takePart 66 = .ok (.goto 13, 3) := by decide +kernel
theorem dX12_takePart_69 : decode cX12_takePart 69 = .ok (.iload_n 1, 1) := by decide +kernel
theorem dX12_takePart_70 : decode cX12_takePart 70 = .ok (.iconst 5, 1) := by decide +kernel
theorem dX12_takePart_71 : decode cX12_takePart 71 = .ok (.if_icmp .ne 8, 3) := by decide +kernel
theorem dX12_takePart_74 : decode cX12_takePart 74 = .ok (.aload_n 0, 1) := by decide +kernel
theorem dX12_takePart_75 : decode cX12_takePart 75 = .ok (.iconst 5, 1) := by decide +kernel
theorem dX12_takePart_76 : decode cX12_takePart 76 = .ok (.invokevirtual 168, 3) := by decide +kernel
theorem dX12_takePart_79 : decode cX12_takePart 79 = .ok (.aload_n 0, 1) := by decide +kernel
theorem dX12_takePart_80 : decode cX12_takePart 80 = .ok (.getfield 162, 3) := by decide +kernel
theorem dX12_takePart_83 : decode cX12_takePart 83 = .ok (.ifCond .le 4, 3) := by decide +kernel
theorem dX12_takePart_86 : decode cX12_takePart 86 = .ok (.return_, 1) := by decide +kernel
theorem dX12_takePart_87 : decode cX12_takePart 87 = .ok (.aload_n 0, 1) := by decide +kernel
theorem dX12_takePart_88 : decode cX12_takePart 88 = .ok (.bipush 16, 2) := by decide +kernel
theorem dX12_takePart_90 : decode cX12_takePart 90 = .ok (.invokevirtual 174, 3) := by decide +kernel
theorem dX12_takePart_93 : decode cX12_takePart 93 = .ok (.ifCond .eq 19, 3) := by decide +kernel
theorem dX12_takePart_96 : decode cX12_takePart 96 = .ok (.aload_n 0, 1) := by decide +kernel
theorem dX12_takePart_97 : decode cX12_takePart 97 = .ok (.iload_n 1, 1) := by decide +kernel
theorem dX12_takePart_98 : decode cX12_takePart 98 = .ok (.iconst 1, 1) := by decide +kernel
theorem dX12_takePart_99 : decode cX12_takePart 99 = .ok (.iadd, 1) := by decide +kernel
theorem dX12_takePart_100 : decode cX12_takePart 100 = .ok (.invokevirtual 263, 3) := by decide +kernel
theorem dX12_takePart_103 : decode cX12_takePart 103 = .ok (.aload_n 0, 1) := by decide +kernel
theorem dX12_takePart_104 : decode cX12_takePart 104 = .ok (.iconst 3, 1) := by decide +kernel
theorem dX12_takePart_105 : decode cX12_takePart 105 = .ok (.iconst 0, 1) := by decide +kernel
theorem dX12_takePart_106 : decode cX12_takePart 106 = .ok (.invokevirtual 247, 3) := by decide +kernel
theorem dX12_takePart_109 : decode cX12_takePart 109 = .ok (.goto 69, 3) := by decide +kernel
theorem dX12_takePart_112 : decode cX12_takePart 112 = .ok (.aload_n 0, 1) := by decide +kernel
theorem dX12_takePart_113 : decode cX12_takePart 113 = .ok (.bipush 40, 2) := by decide +kernel
theorem dX12_takePart_115 : decode cX12_takePart 115 = .ok (.invokevirtual 257, 3) := by decide +kernel
theorem dX12_takePart_118 : decode cX12_takePart 118 = .ok (.ifCond .eq 19, 3) := by decide +kernel
theorem dX12_takePart_121 : decode cX12_takePart 121 = .ok (.aload_n 0, 1) := by decide +kernel
theorem dX12_takePart_122 : decode cX12_takePart 122 = .ok (.iload_n 1, 1) := by decide +kernel
theorem dX12_takePart_123 : decode cX12_takePart 123 = .ok (.iconst 1, 1) := by decide +kernel
theorem dX12_takePart_124 : decode cX12_takePart 124 = .ok (.iadd, 1) := by decide +kernel
theorem dX12_takePart_125 : decode cX12_takePart 125 = .ok (.invokevirtual 244, 3) := by decide +kernel
theorem dX12_takePart_128 : decode cX12_takePart 128 = .ok (.aload_n 0, 1) := by decide +kernel
theorem dX12_takePart_129 : decode cX12_takePart 129 = .ok (.bipush 41, 2) := by decide +kernel
theorem dX12_takePart_131 : decode cX12_takePart 131 = .ok (.invokevirtual 218, 3) := by decide +kernel
theorem dX12_takePart_134 : decode cX12_takePart 134 = .ok (.goto 44, 3) := by decide +kernel
theorem dX12_takePart_137 : decode cX12_takePart 137 = .ok (.aload_n 0, 1) := by decide +kernel
theorem dX12_takePart_138 : decode cX12_takePart 138 = .ok (.iload_n 2, 1) := by decide +kernel
theorem dX12_takePart_139 : decode cX12_takePart 139 = .ok (.ifCond .eq 7, 3) := by decide +kernel
theorem dX12_takePart_142 : decode cX12_takePart 142 = .ok (.iconst 1, 1) := by decide +kernel
theorem dX12_takePart_143 : decode cX12_takePart 143 = .ok (.goto 4, 3) := by decide +kernel
theorem dX12_takePart_146 : decode cX12_takePart 146 = .ok (.iconst 2, 1) := by decide +kernel
theorem dX12_takePart_147 : decode cX12_takePart 147 = .ok (.iload_n 2, 1) := by decide +kernel
theorem dX12_takePart_148 : decode cX12_takePart 148 = .ok (.ifCond .eq 16, 3) := by decide +kernel
theorem dX12_takePart_151 : decode cX12_takePart 151 = .ok (.aload_n 0, 1) := by decide +kernel
theorem dX12_takePart_152 : decode cX12_takePart 152 = .ok (.getfield 30, 3) := by decide +kernel
theorem dX12_takePart_155 : decode cX12_takePart 155 = .ok (.aload_n 0, 1) := by decide +kernel
theorem dX12_takePart_156 : decode cX12_takePart 156 = .ok (.getfield 159, 3) := by decide +kernel
theorem dX12_takePart_159 : decode cX12_takePart 159 = .ok (.laload, 1) := by decide +kernel
theorem dX12_takePart_160 : decode cX12_takePart 160 = .ok (.l2i, 1) := by decide +kernel
theorem dX12_takePart_161 : decode cX12_takePart 161 = .ok (.goto 4, 3) := by decide +kernel
theorem dX12_takePart_164 : decode cX12_takePart 164 = .ok (.iload_n 3, 1) := by decide +kernel
theorem dX12_takePart_165 : decode cX12_takePart 165 = .ok (.invokevirtual 247, 3) := by decide +kernel
theorem dX12_takePart_168 : decode cX12_takePart 168 = .ok (.aload_n 0, 1) := by decide +kernel
theorem dX12_takePart_169 : decode cX12_takePart 169 = .ok (.dup, 1) := by decide +kernel
theorem dX12_takePart_170 : decode cX12_takePart 170 = .ok (.getfield 159, 3) := by decide +kernel
theorem dX12_takePart_173 : decode cX12_takePart 173 = .ok (.iconst 1, 1) := by decide +kernel
theorem dX12_takePart_174 : decode cX12_takePart 174 = .ok (.iadd, 1) := by decide +kernel
theorem dX12_takePart_175 : decode cX12_takePart 175 = .ok (.putfield 159, 3) := by decide +kernel
theorem dX12_takePart_178 : decode cX12_takePart 178 = .ok (.return_, 1) := by decide +kernel
abbrev mX12_takePart : MI := (RX12, yX12_takePart, cX12_takePart, 4, none)
theorem cvX12_takePart : CV mX12_takePart 1 := ⟨⟨mw (i := 1522) (by decide +kernel), mw (i := 12) (by decide +kernel), ⟨by decide +kernel, by decide +kernel, by decide +kernel⟩, by decide⟩, mw (i := 1521) (by decide +kernel), mp2 (i := 64) 31 (by decide +kernel)⟩
def GX12_takePart (self : Nat → Int32 → PP Unit) (a0 : Nat) (p1 : Int32) : PP Unit := bd (gI a0 8) (fun x1 => if x1 ≤ 0 then bd (gI a0 7) (fun x2 => bd (aI (rf a0 4) 1002 x2) (fun x3 => bd (if x3 = (2 : Int32) then pu (1 : Int32) else pu (0 : Int32) : PP (Int32)) (fun (v4 : Int32) => bd (FX12_wordHere a0 (19 : Int32) (4 : Int32)) (fun x5 => bd (jn (fun (v10 : Unit) => if p1 = (5 : Int32) then bd (FX12_wrong a0 (5 : Int32)) (fun (_ : Unit) => pu ()) else pu ()) (fun j6 => if 0 ≤ x5 then j6 () else if v4 = 0 then bd (FX12_isSign a0 (40 : Int32)) (fun x7 => if ((b2i x7)) = 0 then bd (FX12_isWord a0 (16 : Int32)) (fun x8 => if ((b2i x8)) = 0 then bd (FX12_wrong a0 (1 : Int32)) (fun (_ : Unit) => pu ()) else j6 ()) else j6 ()) else j6 ()) : PP (Unit)) (fun (v12 : Unit) => bd (gI a0 8) (fun x13 => if x13 ≤ 0 then bd (FX12_hasWord a0 (16 : Int32)) (fun x14 => bd (if ((b2i x14)) = 0 then bd (FX12_hasSign a0 (40 : Int32)) (fun x15 => if ((b2i x15)) = 0 then bd (if v4 = 0 then pu (2 : Int32) else pu (1 : Int32) : PP (Int32)) (fun (v16 : Int32) => bd (if v4 = 0 then pu x5 else bd (gI a0 7) (fun x17 => bd (aL (rf a0 6) 1002 x17) (fun x18 => pu x18.toInt32)) : PP (Int32)) (fun (v19 : Int32) => bd (FX12_emit a0 v16 v19) (fun (_ : Unit) => bd (gI a0 7) (fun x21 => bd (sI a0 7 (x21 + (1 : Int32))) (fun (_ : Unit) => pu ()))))) else bd (FX12_whole self a0 (p1 + (1 : Int32))) (fun (_ : Unit) => bd (FX12_takeSign a0 (41 : Int32)) (fun (_ : Unit) => pu ()))) else bd (self a0 (p1 + (1 : Int32))) (fun (_ : Unit) => bd (FX12_emit a0 (3 : Int32) (0 : Int32)) (fun (_ : Unit) => pu ())) : PP (Unit)) (fun (v26 : Unit) => pu ())) else pu ())))))) else pu ())
set_option maxHeartbeats 4000000 in
set_option maxRecDepth 100000 in
theorem SGX12_takePart {l : Launch} {K : KK} {n : Nat} {dp : Nat} {self : Nat → Int32 → PP Unit} {hn : 270 ≤ n} (hs : ∀ (a0 : Nat) (p1 : Int32), ob a0 11 → CT l K n dp mX12_takePart [.ref (K.2.1 + a0), .int p1] enU (self a0 p1)) (a0 : Nat) (p1 : Int32) (h0 : ob a0 11) : CT l K n (dp + 6) mX12_takePart [.ref (K.2.1 + a0), .int p1] enU (GX12_takePart self a0 p1) := by
  refine CT.of2 (lv2 := [(0, .ref (K.2.1 + a0)), (1, .int p1)]) (by decide) rfl hn (Nat.le_of_ble_eq_true rfl) rfl (rp_id ?_)
  unfold GX12_takePart
  refine rp_aload_n 0 dX12_takePart_0 rfl ?_
  refine rp_getI fi_X12_162 h0 rfl dX12_takePart_1 (fun x1 => ?_)
  refine rp_if_le 8 dX12_takePart_4 (by decide) ?_ ?_
  · refine rp_aload_n 0 dX12_takePart_8 rfl ?_
    refine rp_getR fi_X12_24 h0 rfl dX12_takePart_9 ?_
    refine rp_aload_n 0 dX12_takePart_12 rfl ?_
    refine rp_getI fi_X12_159 h0 rfl dX12_takePart_13 (fun x2 => ?_)
    refine rp_iald (tX12_4 h0) dX12_takePart_16 (fun x3 => ?_)
    refine rp_iconst (2 : Int32) dX12_takePart_17 (by decide) ?_
    refine rp_as ?_
    refine rp_join 26 (fun (v4 : Int32) => [(0, .ref (K.2.1 + a0)), (1, .int p1)]) (fun v4 => [.int v4]) (fun v4 => ?_) (fun hJ26 => ?_)
    · refine rp_istore_n [(2, .int v4), (0, .ref (K.2.1 + a0)), (1, .int p1)] dX12_takePart_26 (by decide) rfl ?_
      refine rp_aload_n 1 dX12_takePart_27 rfl ?_
      refine rp_bipush (19 : Int32) dX12_takePart_28 (by decide) ?_
      refine rp_iconst (4 : Int32) dX12_takePart_30 (by decide) ?_
      refine rp_callVi [.int (19 : Int32), .int (4 : Int32)] (SX12_wordHere (hn := hn) a0 (19 : Int32) (4 : Int32) h0) cvX12_wordHere (mw (i := 1452) (by decide +kernel)) (by omega) h0 (by decide) rfl rfl rfl (Nat.le_of_ble_eq_true rfl) dX12_takePart_31 (fun x5 => ?_)
      refine rp_istore_n [(3, .int x5), (2, .int v4), (0, .ref (K.2.1 + a0)), (1, .int p1)] dX12_takePart_34 (by decide) rfl ?_
      refine rp_iload_n 0 dX12_takePart_35 rfl ?_
      refine rp_as ?_
      refine rp_join 79 (fun (v12 : Unit) => [(0, .ref (K.2.1 + a0)), (1, .int p1), (2, .int v4), (3, .int x5)]) (fun v12 => []) (fun v12 => ?_) (fun hJ79 => ?_)
      · refine rp_aload_n 0 dX12_takePart_79 rfl ?_
        refine rp_getI fi_X12_162 h0 rfl dX12_takePart_80 (fun x13 => ?_)
        refine rp_if_le 87 dX12_takePart_83 (by decide) ?_ ?_
        · refine rp_aload_n 0 dX12_takePart_87 rfl ?_
          refine rp_bipush (16 : Int32) dX12_takePart_88 (by decide) ?_
          refine rp_callVz [.int (16 : Int32)] (SX12_hasWord (hn := hn) a0 (16 : Int32) h0) cvX12_hasWord (mw (i := 1468) (by decide +kernel)) (by omega) h0 (by decide) rfl rfl rfl (Nat.le_of_ble_eq_true rfl) dX12_takePart_90 (fun x14 => ?_)
          refine rp_as ?_
          refine rp_join 178 (fun (v26 : Unit) => []) (fun v26 => []) (fun v26 => ?_) (fun hJ178 => ?_)
          · exact rp_pu (rp_vret rfl dX12_takePart_178)
          refine rp_if_eq 112 dX12_takePart_93 (by decide) ?_ ?_
          · refine rp_aload_n 0 dX12_takePart_112 rfl ?_
            refine rp_bipush (40 : Int32) dX12_takePart_113 (by decide) ?_
            refine rp_callVz [.int (40 : Int32)] (SX12_hasSign (hn := hn) a0 (40 : Int32) h0) cvX12_hasSign (mw (i := 1531) (by decide +kernel)) (by omega) h0 (by decide) rfl rfl rfl (Nat.le_of_ble_eq_true rfl) dX12_takePart_115 (fun x15 => ?_)
            refine rp_if_eq 137 dX12_takePart_118 (by decide) ?_ ?_
            · refine rp_aload_n 0 dX12_takePart_137 rfl ?_
              refine rp_iload_n 2 dX12_takePart_138 rfl ?_
              refine rp_as ?_
              refine rp_join 147 (fun (v16 : Int32) => [(0, .ref (K.2.1 + a0)), (2, .int v4), (3, .int x5)]) (fun v16 => [.int v16, .ref (K.2.1 + a0)]) (fun v16 => ?_) (fun hJ147 => ?_)
              · refine rp_iload_n 1 dX12_takePart_147 rfl ?_
                refine rp_as ?_
                refine rp_join 165 (fun (v19 : Int32) => [(0, .ref (K.2.1 + a0))]) (fun v19 => [.int v19, .int v16, .ref (K.2.1 + a0)]) (fun v19 => ?_) (fun hJ165 => ?_)
                · refine rp_callVv [.int v16, .int v19] (SX12_emit (hn := hn) a0 v16 v19 h0) cvX12_emit (mw (i := 1527) (by decide +kernel)) (by omega) h0 (by decide) rfl rfl rfl (Nat.le_of_ble_eq_true rfl) dX12_takePart_165 (fun x20 => ?_)
                  refine rp_aload_n 0 dX12_takePart_168 rfl ?_
                  refine rp_dup dX12_takePart_169 rfl ?_
                  refine rp_getI fi_X12_159 h0 rfl dX12_takePart_170 (fun x21 => ?_)
                  refine rp_iconst (1 : Int32) dX12_takePart_173 (by decide) ?_
                  refine rp_iadd dX12_takePart_174 ?_
                  refine rp_putI fi_X12_159 fp_X12_7 h0 rfl dX12_takePart_175 ?_
                  exact rp_sub [] rfl (rp_pu (hJ178 ()))
                refine rp_if_eq 164 dX12_takePart_148 (by decide) ?_ ?_
                · refine rp_iload_n 2 dX12_takePart_164 rfl ?_
                  exact rp_sub [0] rfl (rp_pu (hJ165 x5))
                · refine rp_aload_n 0 dX12_takePart_151 rfl ?_
                  refine rp_getR fi_X12_30 h0 rfl dX12_takePart_152 ?_
                  refine rp_aload_n 0 dX12_takePart_155 rfl ?_
                  refine rp_getI fi_X12_159 h0 rfl dX12_takePart_156 (fun x17 => ?_)
                  refine rp_lald (tX12_6 h0) dX12_takePart_159 (fun x18 => ?_)
                  refine rp_l2i dX12_takePart_160 ?_
                  refine rp_goto 165 dX12_takePart_161 (by decide) ?_
                  exact rp_sub [0] rfl (rp_pu (hJ165 x18.toInt32))
              refine rp_if_eq 146 dX12_takePart_139 (by decide) ?_ ?_
              · refine rp_iconst (2 : Int32) dX12_takePart_146 (by decide) ?_
                exact rp_sub [0, 2, 3] rfl (rp_pu (hJ147 (2 : Int32)))
              · refine rp_iconst (1 : Int32) dX12_takePart_142 (by decide) ?_
                refine rp_goto 147 dX12_takePart_143 (by decide) ?_
                exact rp_sub [0, 2, 3] rfl (rp_pu (hJ147 (1 : Int32)))
            · refine rp_aload_n 0 dX12_takePart_121 rfl ?_
              refine rp_iload_n 1 dX12_takePart_122 rfl ?_
              refine rp_iconst (1 : Int32) dX12_takePart_123 (by decide) ?_
              refine rp_iadd dX12_takePart_124 ?_
              refine rp_callVv [.int (p1 + (1 : Int32))] (SX12_whole (hn := hn) hs a0 (p1 + (1 : Int32)) h0) cvX12_whole (mw (i := 1503) (by decide +kernel)) (by omega) h0 (by decide) rfl rfl rfl (Nat.le_of_ble_eq_true rfl) dX12_takePart_125 (fun x22 => ?_)
              refine rp_aload_n 0 dX12_takePart_128 rfl ?_
              refine rp_bipush (41 : Int32) dX12_takePart_129 (by decide) ?_
              refine rp_callVv [.int (41 : Int32)] (SX12_takeSign (hn := hn) a0 (41 : Int32) h0) cvX12_takeSign (mw (i := 1535) (by decide +kernel)) (by omega) h0 (by decide) rfl rfl rfl (Nat.le_of_ble_eq_true rfl) dX12_takePart_131 (fun x23 => ?_)
              refine rp_goto 178 dX12_takePart_134 (by decide) ?_
              exact rp_sub [] rfl (rp_pu (hJ178 ()))
          · refine rp_aload_n 0 dX12_takePart_96 rfl ?_
            refine rp_iload_n 1 dX12_takePart_97 rfl ?_
            refine rp_iconst (1 : Int32) dX12_takePart_98 (by decide) ?_
            refine rp_iadd dX12_takePart_99 ?_
            refine rp_callVv [.int (p1 + (1 : Int32))] (hs a0 (p1 + (1 : Int32)) h0) cvX12_takePart (mw (i := 1519) (by decide +kernel)) (by omega) h0 (by decide) rfl rfl rfl (Nat.le_of_ble_eq_true rfl) dX12_takePart_100 (fun x24 => ?_)
            refine rp_aload_n 0 dX12_takePart_103 rfl ?_
            refine rp_iconst (3 : Int32) dX12_takePart_104 (by decide) ?_
            refine rp_iconst (0 : Int32) dX12_takePart_105 (by decide) ?_
            refine rp_callVv [.int (3 : Int32), .int (0 : Int32)] (SX12_emit (hn := hn) a0 (3 : Int32) (0 : Int32) h0) cvX12_emit (mw (i := 1527) (by decide +kernel)) (by omega) h0 (by decide) rfl rfl rfl (Nat.le_of_ble_eq_true rfl) dX12_takePart_106 (fun x25 => ?_)
            refine rp_goto 178 dX12_takePart_109 (by decide) ?_
            exact rp_sub [] rfl (rp_pu (hJ178 ()))
        · exact rp_pu (rp_vret rfl dX12_takePart_86)
      refine rp_jn2 69 (fun (v10 : Unit) => [(0, .ref (K.2.1 + a0)), (1, .int p1), (2, .int v4), (3, .int x5)]) (fun v10 => []) (fun v10 => ?_) (fun hK69 => ?_)
      · refine rp_iload_n 1 dX12_takePart_69 rfl ?_
        refine rp_iconst (5 : Int32) dX12_takePart_70 (by decide) ?_
        refine rp_icmp_ne 79 dX12_takePart_71 (by decide) ?_ ?_
        · exact rp_sub [0, 1, 2, 3] rfl (rp_pu (hJ79 ()))
        · refine rp_aload_n 0 dX12_takePart_74 rfl ?_
          refine rp_iconst (5 : Int32) dX12_takePart_75 (by decide) ?_
          refine rp_callVv [.int (5 : Int32)] (SX12_wrong (hn := hn) a0 (5 : Int32) h0) cvX12_wrong (mw (i := 1444) (by decide +kernel)) (by omega) h0 (by decide) rfl rfl rfl (Nat.le_of_ble_eq_true rfl) dX12_takePart_76 (fun x11 => ?_)
          exact rp_sub [0, 1, 2, 3] rfl (rp_pu (hJ79 ()))
      refine rp_if_ge 69 dX12_takePart_36 (by decide) ?_ ?_
      · exact rp_sub [2, 3, 1, 0] rfl (hK69 ())
      · refine rp_iload_n 1 dX12_takePart_39 rfl ?_
        refine rp_if_ne 69 dX12_takePart_40 (by decide) ?_ ?_
        · exact rp_sub [2, 3, 1, 0] rfl (hK69 ())
        · refine rp_aload_n 2 dX12_takePart_43 rfl ?_
          refine rp_bipush (40 : Int32) dX12_takePart_44 (by decide) ?_
          refine rp_callVz [.int (40 : Int32)] (SX12_isSign (hn := hn) a0 (40 : Int32) h0) cvX12_isSign (mw (i := 1523) (by decide +kernel)) (by omega) h0 (by decide) rfl rfl rfl (Nat.le_of_ble_eq_true rfl) dX12_takePart_46 (fun x7 => ?_)
          refine rp_if_ne 69 dX12_takePart_49 (by decide) ?_ ?_
          · exact rp_sub [2, 3, 1, 0] rfl (hK69 ())
          · refine rp_aload_n 2 dX12_takePart_52 rfl ?_
            refine rp_bipush (16 : Int32) dX12_takePart_53 (by decide) ?_
            refine rp_callVz [.int (16 : Int32)] (SX12_isWord (hn := hn) a0 (16 : Int32) h0) cvX12_isWord (mw (i := 1436) (by decide +kernel)) (by omega) h0 (by decide) rfl rfl rfl (Nat.le_of_ble_eq_true rfl) dX12_takePart_55 (fun x8 => ?_)
            refine rp_if_ne 69 dX12_takePart_58 (by decide) ?_ ?_
            · exact rp_sub [2, 3, 1, 0] rfl (hK69 ())
            · refine rp_aload_n 2 dX12_takePart_61 rfl ?_
              refine rp_iconst (1 : Int32) dX12_takePart_62 (by decide) ?_
              refine rp_callVv [.int (1 : Int32)] (SX12_wrong (hn := hn) a0 (1 : Int32) h0) cvX12_wrong (mw (i := 1444) (by decide +kernel)) (by omega) h0 (by decide) rfl rfl rfl (Nat.le_of_ble_eq_true rfl) dX12_takePart_63 (fun x9 => ?_)
              refine rp_goto 79 dX12_takePart_66 (by decide) ?_
              exact rp_sub [2, 3, 1, 0] rfl (rp_pu (hJ79 ()))
    refine rp_icmp_ne 25 dX12_takePart_18 (by decide) ?_ ?_
    · refine rp_iconst (0 : Int32) dX12_takePart_25 (by decide) ?_
      exact rp_sub [0, 1] rfl (rp_pu (hJ26 (0 : Int32)))
    · refine rp_iconst (1 : Int32) dX12_takePart_21 (by decide) ?_
      refine rp_goto 26 dX12_takePart_22 (by decide) ?_
      exact rp_sub [0, 1] rfl (rp_pu (hJ26 (1 : Int32)))
  · exact rp_pu (rp_vret rfl dX12_takePart_7)
def FX12_takePart : Nat → Nat → Int32 → PP Unit
  | 0, _, _ => fl
  | k + 1, a0, p1 => GX12_takePart (FX12_takePart k) a0 p1
theorem SX12_takePart {l : Launch} {K : KK} {n : Nat} {hn : 270 ≤ n} : ∀ (k : Nat) (a0 : Nat) (p1 : Int32) (h0 : ob a0 11), CT l K n (6 * k) mX12_takePart [.ref (K.2.1 + a0), .int p1] enU (FX12_takePart k a0 p1)
  | 0, _, _, _ => fun σ r σ' q => by cases q
  | k + 1, a0, p1, h0 => SGX12_takePart (hn := hn) (dp := 6 * k) (fun z0 z1 z2 => SX12_takePart (hn := hn) k z0 z1 z2) a0 p1 h0

theorem dX12_readDries_0 : decode cX12_readDries 0 = .ok (.aload_n 0, 1) := by decide +kernel
theorem dX12_readDries_1 : decode cX12_readDries 1 = .ok (.bipush 7, 2) := by decide +kernel
theorem dX12_readDries_3 : decode cX12_readDries 3 = .ok (.invokevirtual 171, 3) := by decide +kernel
theorem dX12_readDries_6 : decode cX12_readDries 6 = .ok (.ifCond .ne 11, 3) := by decide +kernel
theorem dX12_readDries_9 : decode cX12_readDries 9 = .ok (.aload_n 0, 1) := by decide +kernel
theorem dX12_readDries_10 : decode cX12_readDries 10 = .ok (.iconst 1, 1) := by decide +kernel
theorem dX12_readDries_11 : decode cX12_readDries 11 = .ok (.invokevirtual 168, 3) := by decide +kernel
theorem dX12_readDries_14 : decode cX12_readDries 14 = .ok (.goto 18, 3) := by decide +kernel
theorem dX12_readDries_17 : decode cX12_readDries 17 = .ok (.aload_n 0, 1) := by decide +kernel
theorem dX12_readDries_18 : decode cX12_readDries 18 = .ok (.getfield 83, 3) := by decide +kernel
theorem dX12_readDries_21 : decode cX12_readDries 21 = .ok (.bipush 43, 2) := by decide +kernel
theorem dX12_readDries_23 : decode cX12_readDries 23 = .ok (.iaload, 1) := by decide +kernel
theorem dX12_readDries_24 : decode cX12_readDries 24 = .ok (.ifCond .lt 8, 3) := by decide +kernel
theorem dX12_readDries_27 : decode cX12_readDries 27 = .ok (.aload_n 0, 1) := by decide +kernel
theorem dX12_readDries_28 : decode cX12_readDries 28 = .ok (.iconst 3, 1) := by decide +kernel
theorem dX12_readDries_29 : decode cX12_readDries 29 = .ok (.invokevirtual 168, 3) := by decide +kernel
theorem dX12_readDries_32 : decode cX12_readDries 32 = .ok (.aload_n 0, 1) := by decide +kernel
theorem dX12_readDries_33 : decode cX12_readDries 33 = .ok (.getfield 162, 3) := by decide +kernel
theorem dX12_readDries_36 : decode cX12_readDries 36 = .ok (.ifCond .le 4, 3) := by decide +kernel
theorem dX12_readDries_39 : decode cX12_readDries 39 = .ok (.return_, 1) := by decide +kernel
theorem dX12_readDries_40 : decode cX12_readDries 40 = .ok (.aload_n 0, 1) := by decide +kernel
theorem dX12_readDries_41 : decode cX12_readDries 41 = .ok (.dup, 1) := by decide +kernel
theorem dX12_readDries_42 : decode cX12_readDries 42 = .ok (.getfield 159, 3) := by decide +kernel
theorem dX12_readDries_45 : decode cX12_readDries 45 = .ok (.iconst 1, 1) := by decide +kernel
theorem dX12_readDries_46 : decode cX12_readDries 46 = .ok (.iadd, 1) := by decide +kernel
theorem dX12_readDries_47 : decode cX12_readDries 47 = .ok (.putfield 159, 3) := by decide +kernel
theorem dX12_readDries_50 : decode cX12_readDries 50 = .ok (.aload_n 0, 1) := by decide +kernel
theorem dX12_readDries_51 : decode cX12_readDries 51 = .ok (.getfield 83, 3) := by decide +kernel
theorem dX12_readDries_54 : decode cX12_readDries 54 = .ok (.bipush 43, 2) := by decide +kernel
theorem dX12_readDries_56 : decode cX12_readDries 56 = .ok (.aload_n 0, 1) := by decide +kernel
theorem dX12_readDries_57 : decode cX12_readDries 57 = .ok (.getfield 212, 3) := by decide +kernel
theorem dX12_readDries_60 : decode cX12_readDries 60 = .ok (.iastore, 1) := by decide +kernel
theorem dX12_readDries_61 : decode cX12_readDries 61 = .ok (.aload_n 0, 1) := by decide +kernel
theorem dX12_readDries_62 : decode cX12_readDries 62 = .ok (.iconst 0, 1) := by decide +kernel
theorem dX12_readDries_63 : decode cX12_readDries 63 = .ok (.invokevirtual 244, 3) := by decide +kernel
theorem dX12_readDries_66 : decode cX12_readDries 66 = .ok (.aload_n 0, 1) := by decide +kernel
theorem dX12_readDries_67 : decode cX12_readDries 67 = .ok (.iconst 0, 1) := by decide +kernel
theorem dX12_readDries_68 : decode cX12_readDries 68 = .ok (.iconst 0, 1) := by decide +kernel
theorem dX12_readDries_69 : decode cX12_readDries 69 = .ok (.invokevirtual 247, 3) := by decide +kernel
theorem dX12_readDries_72 : decode cX12_readDries 72 = .ok (.return_, 1) := by decide +kernel
abbrev mX12_readDries : MI := (RX12, yX12_readDries, cX12_readDries, 1, none)
theorem cvX12_readDries : CV mX12_readDries 0 := ⟨⟨mw (i := 1502) (by decide +kernel), mw (i := 12) (by decide +kernel), ⟨by decide +kernel, by decide +kernel, by decide +kernel⟩, by decide⟩, mw (i := 1501) (by decide +kernel), mp2 (i := 59) 31 (by decide +kernel)⟩
def FX12_readDries (a0 : Nat) : PP Unit := bd (FX12_isWord a0 (7 : Int32)) (fun x1 => bd (if ((b2i x1)) = 0 then bd (FX12_wrong a0 (1 : Int32)) (fun (_ : Unit) => pu ()) else bd (aI (rf a0 10) 80 (43 : Int32)) (fun x2 => if x2 < 0 then pu () else bd (FX12_wrong a0 (3 : Int32)) (fun (_ : Unit) => pu ())) : PP (Unit)) (fun (v5 : Unit) => bd (gI a0 8) (fun x6 => if x6 ≤ 0 then bd (gI a0 7) (fun x7 => bd (sI a0 7 (x7 + (1 : Int32))) (fun (_ : Unit) => bd (gI a0 13) (fun x8 => bd (uI (rf a0 10) 80 (43 : Int32) x8) (fun (_ : Unit) => bd (FX12_whole (FX12_takePart 10) a0 (0 : Int32)) (fun (_ : Unit) => bd (FX12_emit a0 (0 : Int32) (0 : Int32)) (fun (_ : Unit) => pu ())))))) else pu ())))
set_option maxHeartbeats 4000000 in
set_option maxRecDepth 100000 in
theorem SX12_readDries {l : Launch} {K : KK} {n : Nat} {hn : 270 ≤ n} (a0 : Nat) (h0 : ob a0 11) : CT l K n 66 mX12_readDries [.ref (K.2.1 + a0)] enU (FX12_readDries a0) := by
  refine CT.of2 (lv2 := [(0, .ref (K.2.1 + a0))]) (by decide) rfl hn (Nat.le_of_ble_eq_true rfl) rfl (rp_id ?_)
  unfold FX12_readDries
  refine rp_aload_n 0 dX12_readDries_0 rfl ?_
  refine rp_bipush (7 : Int32) dX12_readDries_1 (by decide) ?_
  refine rp_callVz [.int (7 : Int32)] (SX12_isWord (hn := hn) a0 (7 : Int32) h0) cvX12_isWord (mw (i := 1436) (by decide +kernel)) (by omega) h0 (by decide) rfl rfl rfl (Nat.le_of_ble_eq_true rfl) dX12_readDries_3 (fun x1 => ?_)
  refine rp_as ?_
  refine rp_join 32 (fun (v5 : Unit) => [(0, .ref (K.2.1 + a0))]) (fun v5 => []) (fun v5 => ?_) (fun hJ32 => ?_)
  · refine rp_aload_n 0 dX12_readDries_32 rfl ?_
    refine rp_getI fi_X12_162 h0 rfl dX12_readDries_33 (fun x6 => ?_)
    refine rp_if_le 40 dX12_readDries_36 (by decide) ?_ ?_
    · refine rp_aload_n 0 dX12_readDries_40 rfl ?_
      refine rp_dup dX12_readDries_41 rfl ?_
      refine rp_getI fi_X12_159 h0 rfl dX12_readDries_42 (fun x7 => ?_)
      refine rp_iconst (1 : Int32) dX12_readDries_45 (by decide) ?_
      refine rp_iadd dX12_readDries_46 ?_
      refine rp_putI fi_X12_159 fp_X12_7 h0 rfl dX12_readDries_47 ?_
      refine rp_aload_n 0 dX12_readDries_50 rfl ?_
      refine rp_getR fi_X12_83 h0 rfl dX12_readDries_51 ?_
      refine rp_bipush (43 : Int32) dX12_readDries_54 (by decide) ?_
      refine rp_aload_n 0 dX12_readDries_56 rfl ?_
      refine rp_getI fi_X12_212 h0 rfl dX12_readDries_57 (fun x8 => ?_)
      refine rp_iast (tX12_10 h0) dX12_readDries_60 ?_
      refine rp_aload_n 0 dX12_readDries_61 rfl ?_
      refine rp_iconst (0 : Int32) dX12_readDries_62 (by decide) ?_
      refine rp_callVv [.int (0 : Int32)] (SX12_whole (hn := hn) (fun z0 z1 z2 => SX12_takePart (hn := hn) 10 z0 z1 z2) a0 (0 : Int32) h0) cvX12_whole (mw (i := 1503) (by decide +kernel)) (by omega) h0 (by decide) rfl rfl rfl (Nat.le_of_ble_eq_true rfl) dX12_readDries_63 (fun x9 => ?_)
      refine rp_aload_n 0 dX12_readDries_66 rfl ?_
      refine rp_iconst (0 : Int32) dX12_readDries_67 (by decide) ?_
      refine rp_iconst (0 : Int32) dX12_readDries_68 (by decide) ?_
      refine rp_callVv [.int (0 : Int32), .int (0 : Int32)] (SX12_emit (hn := hn) a0 (0 : Int32) (0 : Int32) h0) cvX12_emit (mw (i := 1527) (by decide +kernel)) (by omega) h0 (by decide) rfl rfl rfl (Nat.le_of_ble_eq_true rfl) dX12_readDries_69 (fun x10 => ?_)
      exact rp_pu (rp_vret rfl dX12_readDries_72)
    · exact rp_pu (rp_vret rfl dX12_readDries_39)
  refine rp_if_ne 17 dX12_readDries_6 (by decide) ?_ ?_
  · refine rp_aload_n 0 dX12_readDries_17 rfl ?_
    refine rp_getR fi_X12_83 h0 rfl dX12_readDries_18 ?_
    refine rp_bipush (43 : Int32) dX12_readDries_21 (by decide) ?_
    refine rp_iald (tX12_10 h0) dX12_readDries_23 (fun x2 => ?_)
    refine rp_if_lt 32 dX12_readDries_24 (by decide) ?_ ?_
    · exact rp_sub [0] rfl (rp_pu (hJ32 ()))
    · refine rp_aload_n 0 dX12_readDries_27 rfl ?_
      refine rp_iconst (3 : Int32) dX12_readDries_28 (by decide) ?_
      refine rp_callVv [.int (3 : Int32)] (SX12_wrong (hn := hn) a0 (3 : Int32) h0) cvX12_wrong (mw (i := 1444) (by decide +kernel)) (by omega) h0 (by decide) rfl rfl rfl (Nat.le_of_ble_eq_true rfl) dX12_readDries_29 (fun x3 => ?_)
      exact rp_sub [0] rfl (rp_pu (hJ32 ()))
  · refine rp_aload_n 0 dX12_readDries_9 rfl ?_
    refine rp_iconst (1 : Int32) dX12_readDries_10 (by decide) ?_
    refine rp_callVv [.int (1 : Int32)] (SX12_wrong (hn := hn) a0 (1 : Int32) h0) cvX12_wrong (mw (i := 1444) (by decide +kernel)) (by omega) h0 (by decide) rfl rfl rfl (Nat.le_of_ble_eq_true rfl) dX12_readDries_11 (fun x4 => ?_)
    refine rp_goto 32 dX12_readDries_14 (by decide) ?_
    exact rp_sub [0] rfl (rp_pu (hJ32 ()))

theorem dX12_readName_0 : decode cX12_readName 0 = .ok (.aload_n 0, 1) := by decide +kernel
theorem dX12_readName_1 : decode cX12_readName 1 = .ok (.getfield 83, 3) := by decide +kernel
theorem dX12_readName_4 : decode cX12_readName 4 = .ok (.bipush 40, 2) := by decide +kernel
theorem dX12_readName_6 : decode cX12_readName 6 = .ok (.iload_n 1, 1) := by decide +kernel
theorem dX12_readName_7 : decode cX12_readName 7 = .ok (.iadd, 1) := by decide +kernel
theorem dX12_readName_8 : decode cX12_readName 8 = .ok (.iaload, 1) := by decide +kernel
theorem dX12_readName_9 : decode cX12_readName 9 = .ok (.istore 4, 2) := by decide +kernel
theorem dX12_readName_11 : decode cX12_readName 11 = .ok (.iload 4, 2) := by decide +kernel
theorem dX12_readName_13 : decode cX12_readName 13 = .ok (.iload_n 2, 1) := by decide +kernel
theorem dX12_readName_14 : decode cX12_readName 14 = .ok (.if_icmp .ne 9, 3) := by decide +kernel
theorem dX12_readName_17 : decode cX12_readName 17 = .ok (.aload_n 0, 1) := by decide +kernel
theorem dX12_readName_18 : decode cX12_readName 18 = .ok (.iconst 5, 1) := by decide +kernel
theorem dX12_readName_19 : decode cX12_readName 19 = .ok (.invokevirtual 168, 3) := by decide +kernel
theorem dX12_readName_22 : decode cX12_readName 22 = .ok (.return_, 1) := by decide +kernel
theorem dX12_readName_23 : decode cX12_readName 23 = .ok (.aload_n 0, 1) := by decide +kernel
theorem dX12_readName_24 : decode cX12_readName 24 = .ok (.dup, 1) := by decide +kernel
theorem dX12_readName_25 : decode cX12_readName 25 = .ok (.getfield 159, 3) := by decide +kernel
theorem dX12_readName_28 : decode cX12_readName 28 = .ok (.iconst 1, 1) := by decide +kernel
theorem dX12_readName_29 : decode cX12_readName 29 = .ok (.iadd, 1) := by decide +kernel
theorem dX12_readName_30 : decode cX12_readName 30 = .ok (.putfield 159, 3) := by decide +kernel
theorem dX12_readName_33 : decode cX12_readName 33 = .ok (.aload_n 0, 1) := by decide +kernel
theorem dX12_readName_34 : decode cX12_readName 34 = .ok (.invokevirtual 193, 3) := by decide +kernel
theorem dX12_readName_37 : decode cX12_readName 37 = .ok (.ifCond .ne 11, 3) := by decide +kernel
theorem dX12_readName_40 : decode cX12_readName 40 = .ok (.aload_n 0, 1) := by decide +kernel
theorem dX12_readName_41 : decode cX12_readName 41 = .ok (.iconst 1, 1) := by decide +kernel
theorem dX12_readName_42 : decode cX12_readName 42 = .ok (.invokevirtual 168, 3) := by decide +kernel
theorem dX12_readName_45 : decode cX12_readName 45 = .ok (.goto 16, 3) := by decide +kernel
theorem dX12_readName_48 : decode cX12_readName 48 = .ok (.aload_n 0, 1) := by decide +kernel
theorem dX12_readName_49 : decode cX12_readName 49 = .ok (.iconst 1, 1) := by decide +kernel
theorem dX12_readName_50 : decode cX12_readName 50 = .ok (.invokevirtual 197, 3) := by decide +kernel
theorem dX12_readName_53 : decode cX12_readName 53 = .ok (.ifCond .lt 8, 3) := by decide +kernel
theorem dX12_readName_56 : decode cX12_readName 56 = .ok (.aload_n 0, 1) := by decide +kernel
theorem dX12_readName_57 : decode cX12_readName 57 = .ok (.iconst 3, 1) := by decide +kernel
theorem dX12_readName_58 : decode cX12_readName 58 = .ok (.invokevirtual 168, 3) := by decide +kernel
theorem dX12_readName_61 : decode cX12_readName 61 = .ok (.aload_n 0, 1) := by decide +kernel
theorem dX12_readName_62 : decode cX12_readName 62 = .ok (.getfield 162, 3) := by decide +kernel
theorem dX12_readName_65 : decode cX12_readName 65 = .ok (.ifCond .ne 67, 3) := by decide +kernel
theorem dX12_readName_68 : decode cX12_readName 68 = .ok (.aload_n 0, 1) := by decide +kernel
theorem dX12_readName_69 : decode cX12_readName 69 = .ok (.getfield 95, 3) := by decide +kernel
theorem dX12_readName_72 : decode cX12_readName 72 = .ok (.aload_n 0, 1) := by decide +kernel
theorem dX12_readName_73 : decode cX12_readName 73 = .ok (.getfield 187, 3) := by decide +kernel
theorem dX12_readName_76 : decode cX12_readName 76 = .ok (.aload_n 0, 1) := by decide +kernel
theorem dX12_readName_77 : decode cX12_readName 77 = .ok (.getfield 30, 3) := by decide +kernel
theorem dX12_readName_80 : decode cX12_readName 80 = .ok (.aload_n 0, 1) := by decide +kernel
theorem dX12_readName_81 : decode cX12_readName 81 = .ok (.getfield 159, 3) := by decide +kernel
theorem dX12_readName_84 : decode cX12_readName 84 = .ok (.laload, 1) := by decide +kernel
theorem dX12_readName_85 : decode cX12_readName 85 = .ok (.lastore, 1) := by decide +kernel
theorem dX12_readName_86 : decode cX12_readName 86 = .ok (.aload_n 0, 1) := by decide +kernel
theorem dX12_readName_87 : decode cX12_readName 87 = .ok (.getfield 101, 3) := by decide +kernel
theorem dX12_readName_90 : decode cX12_readName 90 = .ok (.aload_n 0, 1) := by decide +kernel
theorem dX12_readName_91 : decode cX12_readName 91 = .ok (.getfield 187, 3) := by decide +kernel
theorem dX12_readName_94 : decode cX12_readName 94 = .ok (.iload_n 3, 1) := by decide +kernel
theorem dX12_readName_95 : decode cX12_readName 95 = .ok (.iload 4, 2) := by decide +kernel
theorem dX12_readName_97 : decode cX12_readName 97 = .ok (.iadd, 1) := by decide +kernel
theorem dX12_readName_98 : decode cX12_readName 98 = .ok (.iastore, 1) := by decide +kernel
theorem dX12_readName_99 : decode cX12_readName 99 = .ok (.aload_n 0, 1) := by decide +kernel
theorem dX12_readName_100 : decode cX12_readName 100 = .ok (.dup, 1) := by decide +kernel
theorem dX12_readName_101 : decode cX12_readName 101 = .ok (.getfield 187, 3) := by decide +kernel
theorem dX12_readName_104 : decode cX12_readName 104 = .ok (.iconst 1, 1) := by decide +kernel
theorem dX12_readName_105 : decode cX12_readName 105 = .ok (.iadd, 1) := by decide +kernel
theorem dX12_readName_106 : decode cX12_readName 106 = .ok (.putfield 187, 3) := by decide +kernel
theorem dX12_readName_109 : decode cX12_readName 109 = .ok (.aload_n 0, 1) := by decide +kernel
theorem dX12_readName_110 : decode cX12_readName 110 = .ok (.dup, 1) := by decide +kernel
theorem dX12_readName_111 : decode cX12_readName 111 = .ok (.getfield 159, 3) := by decide +kernel
theorem dX12_readName_114 : decode cX12_readName 114 = .ok (.iconst 1, 1) := by decide +kernel
theorem dX12_readName_115 : decode cX12_readName 115 = .ok (.iadd, 1) := by decide +kernel
theorem dX12_readName_116 : decode cX12_readName 116 = .ok (.putfield 159, 3) := by decide +kernel
theorem dX12_readName_119 : decode cX12_readName 119 = .ok (.aload_n 0, 1) := by decide +kernel
theorem dX12_readName_120 : decode cX12_readName 120 = .ok (.getfield 83, 3) := by decide +kernel
theorem dX12_readName_123 : decode cX12_readName 123 = .ok (.bipush 40, 2) := by decide +kernel
theorem dX12_readName_125 : decode cX12_readName 125 = .ok (.iload_n 1, 1) := by decide +kernel
theorem dX12_readName_126 : decode cX12_readName 126 = .ok (.iadd, 1) := by decide +kernel
theorem dX12_readName_127 : decode cX12_readName 127 = .ok (.dup2, 1) := by decide +kernel
theorem dX12_readName_128 : decode cX12_readName 128 = .ok (.iaload, 1) := by decide +kernel
theorem dX12_readName_129 : decode cX12_readName 129 = .ok (.iconst 1, 1) := by decide +kernel
theorem dX12_readName_130 : decode cX12_readName 130 = .ok (.iadd, 1) := by decide +kernel
theorem dX12_readName_131 : decode cX12_readName 131 = .ok (.iastore, 1) := by decide +kernel
theorem dX12_readName_132 : decode cX12_readName 132 = .ok (.return_, 1) := by decide +kernel
abbrev mX12_readName : MI := (RX12, yX12_readName, cX12_readName, 5, none)
theorem cvX12_readName : CV mX12_readName 3 := ⟨⟨mw (i := 1443) (by decide +kernel), mw (i := 12) (by decide +kernel), ⟨by decide +kernel, by decide +kernel, by decide +kernel⟩, by decide⟩, mw (i := 1442) (by decide +kernel), mp2 (i := 45) 31 (by decide +kernel)⟩
def FX12_readName (a0 : Nat) (p1 : Int32) (p2 : Int32) (p3 : Int32) : PP Unit := bd (aI (rf a0 10) 80 ((40 : Int32) + p1)) (fun x1 => if x1 = p2 then bd (FX12_wrong a0 (5 : Int32)) (fun (_ : Unit) => pu ()) else bd (gI a0 7) (fun x2 => bd (sI a0 7 (x2 + (1 : Int32))) (fun (_ : Unit) => bd (FX12_isName a0) (fun x3 => bd (if ((b2i x3)) = 0 then bd (FX12_wrong a0 (1 : Int32)) (fun (_ : Unit) => pu ()) else bd (FX12_nameAt a0 (1 : Int32)) (fun x4 => if x4 < 0 then pu () else bd (FX12_wrong a0 (3 : Int32)) (fun (_ : Unit) => pu ())) : PP (Unit)) (fun (v7 : Unit) => bd (gI a0 8) (fun x8 => bd (if x8 = 0 then bd (gI a0 19) (fun x9 => bd (gI a0 7) (fun x10 => bd (aL (rf a0 6) 1002 x10) (fun x11 => bd (uL (rf a0 15) 15 x9 x11) (fun (_ : Unit) => bd (gI a0 19) (fun x12 => bd (uI (rf a0 17) 15 x12 (p3 + x1)) (fun (_ : Unit) => bd (gI a0 19) (fun x13 => bd (sI a0 19 (x13 + (1 : Int32))) (fun (_ : Unit) => bd (gI a0 7) (fun x14 => bd (sI a0 7 (x14 + (1 : Int32))) (fun (_ : Unit) => bd (aI (rf a0 10) 80 ((40 : Int32) + p1)) (fun x15 => bd (uI (rf a0 10) 80 ((40 : Int32) + p1) (x15 + (1 : Int32))) (fun (_ : Unit) => pu ())))))))))))) else pu () : PP (Unit)) (fun (v16 : Unit) => pu ())))))))
set_option maxHeartbeats 4000000 in
set_option maxRecDepth 100000 in
theorem SX12_readName {l : Launch} {K : KK} {n : Nat} {hn : 270 ≤ n} (a0 : Nat) (p1 : Int32) (p2 : Int32) (p3 : Int32) (h0 : ob a0 11) : CT l K n 3 mX12_readName [.ref (K.2.1 + a0), .int p1, .int p2, .int p3] enU (FX12_readName a0 p1 p2 p3) := by
  refine CT.of2 (lv2 := [(0, .ref (K.2.1 + a0)), (1, .int p1), (2, .int p2), (3, .int p3)]) (by decide) rfl hn (Nat.le_of_ble_eq_true rfl) rfl (rp_id ?_)
  unfold FX12_readName
  refine rp_aload_n 0 dX12_readName_0 rfl ?_
  refine rp_getR fi_X12_83 h0 rfl dX12_readName_1 ?_
  refine rp_bipush (40 : Int32) dX12_readName_4 (by decide) ?_
  refine rp_iload_n 1 dX12_readName_6 rfl ?_
  refine rp_iadd dX12_readName_7 ?_
  refine rp_iald (tX12_10 h0) dX12_readName_8 (fun x1 => ?_)
  refine rp_istore [(4, .int x1), (0, .ref (K.2.1 + a0)), (1, .int p1), (2, .int p2), (3, .int p3)] dX12_readName_9 (by decide) rfl ?_
  refine rp_iload 0 dX12_readName_11 rfl ?_
  refine rp_iload_n 3 dX12_readName_13 rfl ?_
  refine rp_icmp_ne 23 dX12_readName_14 (by decide) ?_ ?_
  · refine rp_aload_n 1 dX12_readName_23 rfl ?_
    refine rp_dup dX12_readName_24 rfl ?_
    refine rp_getI fi_X12_159 h0 rfl dX12_readName_25 (fun x2 => ?_)
    refine rp_iconst (1 : Int32) dX12_readName_28 (by decide) ?_
    refine rp_iadd dX12_readName_29 ?_
    refine rp_putI fi_X12_159 fp_X12_7 h0 rfl dX12_readName_30 ?_
    refine rp_aload_n 1 dX12_readName_33 rfl ?_
    refine rp_callVz [] (SX12_isName (hn := hn) a0 h0) cvX12_isName (mw (i := 1448) (by decide +kernel)) (by omega) h0 (by decide) rfl rfl rfl (Nat.le_of_ble_eq_true rfl) dX12_readName_34 (fun x3 => ?_)
    refine rp_as ?_
    refine rp_join 61 (fun (v7 : Unit) => [(0, .ref (K.2.1 + a0)), (1, .int p1), (3, .int p3), (4, .int x1)]) (fun v7 => []) (fun v7 => ?_) (fun hJ61 => ?_)
    · refine rp_aload_n 0 dX12_readName_61 rfl ?_
      refine rp_getI fi_X12_162 h0 rfl dX12_readName_62 (fun x8 => ?_)
      refine rp_as ?_
      refine rp_join 132 (fun (v16 : Unit) => []) (fun v16 => []) (fun v16 => ?_) (fun hJ132 => ?_)
      · exact rp_pu (rp_vret rfl dX12_readName_132)
      refine rp_if_ne 132 dX12_readName_65 (by decide) ?_ ?_
      · exact rp_sub [] rfl (rp_pu (hJ132 ()))
      · refine rp_aload_n 0 dX12_readName_68 rfl ?_
        refine rp_getR fi_X12_95 h0 rfl dX12_readName_69 ?_
        refine rp_aload_n 0 dX12_readName_72 rfl ?_
        refine rp_getI fi_X12_187 h0 rfl dX12_readName_73 (fun x9 => ?_)
        refine rp_aload_n 0 dX12_readName_76 rfl ?_
        refine rp_getR fi_X12_30 h0 rfl dX12_readName_77 ?_
        refine rp_aload_n 0 dX12_readName_80 rfl ?_
        refine rp_getI fi_X12_159 h0 rfl dX12_readName_81 (fun x10 => ?_)
        refine rp_lald (tX12_6 h0) dX12_readName_84 (fun x11 => ?_)
        refine rp_last (tX12_15 h0) dX12_readName_85 ?_
        refine rp_aload_n 0 dX12_readName_86 rfl ?_
        refine rp_getR fi_X12_101 h0 rfl dX12_readName_87 ?_
        refine rp_aload_n 0 dX12_readName_90 rfl ?_
        refine rp_getI fi_X12_187 h0 rfl dX12_readName_91 (fun x12 => ?_)
        refine rp_iload_n 2 dX12_readName_94 rfl ?_
        refine rp_iload 3 dX12_readName_95 rfl ?_
        refine rp_iadd dX12_readName_97 ?_
        refine rp_iast (tX12_17 h0) dX12_readName_98 ?_
        refine rp_aload_n 0 dX12_readName_99 rfl ?_
        refine rp_dup dX12_readName_100 rfl ?_
        refine rp_getI fi_X12_187 h0 rfl dX12_readName_101 (fun x13 => ?_)
        refine rp_iconst (1 : Int32) dX12_readName_104 (by decide) ?_
        refine rp_iadd dX12_readName_105 ?_
        refine rp_putI fi_X12_187 fp_X12_19 h0 rfl dX12_readName_106 ?_
        refine rp_aload_n 0 dX12_readName_109 rfl ?_
        refine rp_dup dX12_readName_110 rfl ?_
        refine rp_getI fi_X12_159 h0 rfl dX12_readName_111 (fun x14 => ?_)
        refine rp_iconst (1 : Int32) dX12_readName_114 (by decide) ?_
        refine rp_iadd dX12_readName_115 ?_
        refine rp_putI fi_X12_159 fp_X12_7 h0 rfl dX12_readName_116 ?_
        refine rp_aload_n 0 dX12_readName_119 rfl ?_
        refine rp_getR fi_X12_83 h0 rfl dX12_readName_120 ?_
        refine rp_bipush (40 : Int32) dX12_readName_123 (by decide) ?_
        refine rp_iload_n 1 dX12_readName_125 rfl ?_
        refine rp_iadd dX12_readName_126 ?_
        refine rp_dup2 dX12_readName_127 rfl rfl ?_
        refine rp_iald (tX12_10 h0) dX12_readName_128 (fun x15 => ?_)
        refine rp_iconst (1 : Int32) dX12_readName_129 (by decide) ?_
        refine rp_iadd dX12_readName_130 ?_
        refine rp_iast (tX12_10 h0) dX12_readName_131 ?_
        exact rp_sub [] rfl (rp_pu (hJ132 ()))
    refine rp_if_ne 48 dX12_readName_37 (by decide) ?_ ?_
    · refine rp_aload_n 1 dX12_readName_48 rfl ?_
      refine rp_iconst (1 : Int32) dX12_readName_49 (by decide) ?_
      refine rp_callVi [.int (1 : Int32)] (SX12_nameAt (hn := hn) a0 (1 : Int32) h0) cvX12_nameAt (mw (i := 1456) (by decide +kernel)) (by omega) h0 (by decide) rfl rfl rfl (Nat.le_of_ble_eq_true rfl) dX12_readName_50 (fun x4 => ?_)
      refine rp_if_lt 61 dX12_readName_53 (by decide) ?_ ?_
      · exact rp_sub [1, 2, 4, 0] rfl (rp_pu (hJ61 ()))
      · refine rp_aload_n 1 dX12_readName_56 rfl ?_
        refine rp_iconst (3 : Int32) dX12_readName_57 (by decide) ?_
        refine rp_callVv [.int (3 : Int32)] (SX12_wrong (hn := hn) a0 (3 : Int32) h0) cvX12_wrong (mw (i := 1444) (by decide +kernel)) (by omega) h0 (by decide) rfl rfl rfl (Nat.le_of_ble_eq_true rfl) dX12_readName_58 (fun x5 => ?_)
        exact rp_sub [1, 2, 4, 0] rfl (rp_pu (hJ61 ()))
    · refine rp_aload_n 1 dX12_readName_40 rfl ?_
      refine rp_iconst (1 : Int32) dX12_readName_41 (by decide) ?_
      refine rp_callVv [.int (1 : Int32)] (SX12_wrong (hn := hn) a0 (1 : Int32) h0) cvX12_wrong (mw (i := 1444) (by decide +kernel)) (by omega) h0 (by decide) rfl rfl rfl (Nat.le_of_ble_eq_true rfl) dX12_readName_42 (fun x6 => ?_)
      refine rp_goto 61 dX12_readName_45 (by decide) ?_
      exact rp_sub [1, 2, 4, 0] rfl (rp_pu (hJ61 ()))
  · refine rp_aload_n 1 dX12_readName_17 rfl ?_
    refine rp_iconst (5 : Int32) dX12_readName_18 (by decide) ?_
    refine rp_callVv [.int (5 : Int32)] (SX12_wrong (hn := hn) a0 (5 : Int32) h0) cvX12_wrong (mw (i := 1444) (by decide +kernel)) (by omega) h0 (by decide) rfl rfl rfl (Nat.le_of_ble_eq_true rfl) dX12_readName_19 (fun x17 => ?_)
    exact rp_pu (rp_vret rfl dX12_readName_22)

theorem dX12_readPlace_0 : decode cX12_readPlace 0 = .ok (.bipush 54, 2) := by decide +kernel
theorem dX12_readPlace_2 : decode cX12_readPlace 2 = .ok (.aload_n 0, 1) := by decide +kernel
theorem dX12_readPlace_3 : decode cX12_readPlace 3 = .ok (.getfield 83, 3) := by decide +kernel
theorem dX12_readPlace_6 : decode cX12_readPlace 6 = .ok (.bipush 41, 2) := by decide +kernel
theorem dX12_readPlace_8 : decode cX12_readPlace 8 = .ok (.iaload, 1) := by decide +kernel
theorem dX12_readPlace_9 : decode cX12_readPlace 9 = .ok (.iadd, 1) := by decide +kernel
theorem dX12_readPlace_10 : decode cX12_readPlace 10 = .ok (.istore_n 1, 1) := by decide +kernel
theorem dX12_readPlace_11 : decode cX12_readPlace 11 = .ok (.aload_n 0, 1) := by decide +kernel
theorem dX12_readPlace_12 : decode cX12_readPlace 12 = .ok (.iconst 1, 1) := by decide +kernel
theorem dX12_readPlace_13 : decode cX12_readPlace 13 = .ok (.iconst 4, 1) := by decide +kernel
theorem dX12_readPlace_14 : decode cX12_readPlace 14 = .ok (.bipush 20, 2) := by decide +kernel
theorem dX12_readPlace_16 : decode cX12_readPlace 16 = .ok (.invokevirtual 221, 3) := by decide +kernel
theorem dX12_readPlace_19 : decode cX12_readPlace 19 = .ok (.aload_n 0, 1) := by decide +kernel
theorem dX12_readPlace_20 : decode cX12_readPlace 20 = .ok (.iconst 3, 1) := by decide +kernel
theorem dX12_readPlace_21 : decode cX12_readPlace 21 = .ok (.invokevirtual 177, 3) := by decide +kernel
theorem dX12_readPlace_24 : decode cX12_readPlace 24 = .ok (.iconst 0, 1) := by decide +kernel
theorem dX12_readPlace_25 : decode cX12_readPlace 25 = .ok (.istore_n 2, 1) := by decide +kernel
theorem dX12_readPlace_26 : decode cX12_readPlace 26 = .ok (.aload_n 0, 1) := by decide +kernel
theorem dX12_readPlace_27 : decode cX12_readPlace 27 = .ok (.getfield 162, 3) := by decide +kernel
theorem dX12_readPlace_30 : decode cX12_readPlace 30 = .ok (.ifCond .ne 89, 3) := by decide +kernel
theorem dX12_readPlace_33 : decode cX12_readPlace 33 = .ok (.iload_n 2, 1) := by decide +kernel
theorem dX12_readPlace_34 : decode cX12_readPlace 34 = .ok (.ifCond .eq 16, 3) := by decide +kernel
theorem dX12_readPlace_37 : decode cX12_readPlace 37 = .ok (.aload_n 0, 1) := by decide +kernel
theorem dX12_readPlace_38 : decode cX12_readPlace 38 = .ok (.getfield 24, 3) := by decide +kernel
theorem dX12_readPlace_41 : decode cX12_readPlace 41 = .ok (.aload_n 0, 1) := by decide +kernel
theorem dX12_readPlace_42 : decode cX12_readPlace 42 = .ok (.getfield 159, 3) := by decide +kernel
theorem dX12_readPlace_45 : decode cX12_readPlace 45 = .ok (.iaload, 1) := by decide +kernel
theorem dX12_readPlace_46 : decode cX12_readPlace 46 = .ok (.iconst 1, 1) := by decide +kernel
theorem dX12_readPlace_47 : decode cX12_readPlace 47 = .ok (.if_icmp .ne 72, 3) := by decide +kernel
theorem dX12_readPlace_50 : decode cX12_readPlace 50 = .ok (.aload_n 0, 1) := by decide +kernel
theorem dX12_readPlace_51 : decode cX12_readPlace 51 = .ok (.iconst 1, 1) := by decide +kernel
theorem dX12_readPlace_52 : decode cX12_readPlace 52 = .ok (.iconst 0, 1) := by decide +kernel
theorem dX12_readPlace_53 : decode cX12_readPlace 53 = .ok (.invokevirtual 205, 3) := by decide +kernel
theorem dX12_readPlace_56 : decode cX12_readPlace 56 = .ok (.istore_n 3, 1) := by decide +kernel
theorem dX12_readPlace_57 : decode cX12_readPlace 57 = .ok (.aload_n 0, 1) := by decide +kernel
theorem dX12_readPlace_58 : decode cX12_readPlace 58 = .ok (.getfield 162, 3) := by decide +kernel
theorem dX12_readPlace_61 : decode cX12_readPlace 61 = .ok (.ifCond .ne 17, 3) := by decide +kernel
theorem dX12_readPlace_64 : decode cX12_readPlace 64 = .ok (.iload_n 2, 1) := by decide +kernel
theorem dX12_readPlace_65 : decode cX12_readPlace 65 = .ok (.iload_n 3, 1) := by decide +kernel
theorem dX12_readPlace_66 : decode cX12_readPlace 66 = .ok (.ishr, 1) := by decide +kernel
theorem dX12_readPlace_67 : decode cX12_readPlace 67 = .ok (.iconst 1, 1) := by decide +kernel
theorem dX12_readPlace_68 : decode cX12_readPlace 68 = .ok (.iand, 1) := by decide +kernel
theorem dX12_readPlace_69 : decode cX12_readPlace 69 = .ok (.iconst 1, 1) := by decide +kernel
theorem dX12_readPlace_70 : decode cX12_readPlace 70 = .ok (.if_icmp .ne 8, 3) := by decide +kernel
theorem dX12_readPlace_73 : decode cX12_readPlace 73 = .ok (.aload_n 0, 1) := by decide +kernel
theorem dX12_readPlace_74 : decode cX12_readPlace 74 = .ok (.iconst 3, 1) := by decide +kernel
theorem dX12_readPlace_75 : decode cX12_readPlace 75 = .ok (.invokevirtual 168, 3) := by decide +kernel
theorem dX12_readPlace_78 : decode cX12_readPlace 78 = .ok (.iload_n 2, 1) := by decide +kernel
theorem dX12_readPlace_79 : decode cX12_readPlace 79 = .ok (.aload_n 0, 1) := by decide +kernel
theorem dX12_readPlace_80 : decode cX12_readPlace 80 = .ok (.getfield 162, 3) := by decide +kernel
theorem dX12_readPlace_83 : decode cX12_readPlace 83 = .ok (.ifCond .le 7, 3) := by decide +kernel
theorem dX12_readPlace_86 : decode cX12_readPlace 86 = .ok (.iconst 0, 1) := by decide +kernel
theorem dX12_readPlace_87 : decode cX12_readPlace 87 = .ok (.goto 6, 3) := by decide +kernel
theorem dX12_readPlace_90 : decode cX12_readPlace 90 = .ok (.iconst 1, 1) := by decide +kernel
theorem dX12_readPlace_91 : decode cX12_readPlace 91 = .ok (.iload_n 3, 1) := by decide +kernel
theorem dX12_readPlace_92 : decode cX12_readPlace 92 = .ok (.ishl, 1) := by decide +kernel
theorem dX12_readPlace_93 : decode cX12_readPlace 93 = .ok (.ior, 1) := by decide +kernel
theorem dX12_readPlace_94 : decode cX12_readPlace 94 = .ok (.istore_n 2, 1) := by decide +kernel
theorem dX12_readPlace_95 : decode cX12_readPlace 95 = .ok (.aload_n 0, 1) := by decide +kernel
theorem dX12_readPlace_96 : decode cX12_readPlace 96 = .ok (.dup, 1) := by decide +kernel
theorem dX12_readPlace_97 : decode cX12_readPlace 97 = .ok (.getfield 159, 3) := by decide +kernel
theorem dX12_readPlace_100 : decode cX12_readPlace 100 = .ok (.aload_n 0, 1) := by decide +kernel
theorem dX12_readPlace_101 : decode cX12_readPlace 101 = .ok (.getfield 162, 3) := by decide +kernel
theorem dX12_readPlace_104 : decode cX12_readPlace 104 = .ok (.ifCond .le 7, 3) := by decide +kernel
theorem dX12_readPlace_107 : decode cX12_readPlace 107 = .ok (.iconst 0, 1) := by decide +kernel
theorem dX12_readPlace_108 : decode cX12_readPlace 108 = .ok (.goto 4, 3) := by decide +kernel
theorem dX12_readPlace_111 : decode cX12_readPlace 111 = .ok (.iconst 1, 1) := by decide +kernel
theorem dX12_readPlace_112 : decode cX12_readPlace 112 = .ok (.iadd, 1) := by decide +kernel
theorem dX12_readPlace_113 : decode cX12_readPlace 113 = .ok (.putfield 159, 3) := by decide +kernel
theorem dX12_readPlace_116 : decode cX12_readPlace 116 = .ok (.goto (-90), 3) := by decide +kernel
theorem dX12_readPlace_119 : decode cX12_readPlace 119 = .ok (.aload_n 0, 1) := by decide +kernel
theorem dX12_readPlace_120 : decode cX12_readPlace 120 = .ok (.getfield 162, 3) := by decide +kernel
theorem dX12_readPlace_123 : decode cX12_readPlace 123 = .ok (.ifCond .ne 10, 3) := by decide +kernel
theorem dX12_readPlace_126 : decode cX12_readPlace 126 = .ok (.aload_n 0, 1) := by decide +kernel
theorem dX12_readPlace_127 : decode cX12_readPlace 127 = .ok (.getfield 83, 3) := by decide +kernel
theorem dX12_readPlace_130 : decode cX12_readPlace 130 = .ok (.iload_n 1, 1) := by decide +kernel
theorem dX12_readPlace_131 : decode cX12_readPlace 131 = .ok (.iload_n 2, 1) := by decide +kernel
theorem dX12_readPlace_132 : decode cX12_readPlace 132 = .ok (.iastore, 1) := by decide +kernel
theorem dX12_readPlace_133 : decode cX12_readPlace 133 = .ok (.return_, 1) := by decide +kernel
abbrev mX12_readPlace : MI := (RX12, yX12_readPlace, cX12_readPlace, 4, none)
theorem cvX12_readPlace : CV mX12_readPlace 0 := ⟨⟨mw (i := 1479) (by decide +kernel), mw (i := 12) (by decide +kernel), ⟨by decide +kernel, by decide +kernel, by decide +kernel⟩, by decide⟩, mw (i := 1478) (by decide +kernel), mp2 (i := 54) 31 (by decide +kernel)⟩
def FX12_readPlace (a0 : Nat) : PP Unit := bd (aI (rf a0 10) 80 (41 : Int32)) (fun x1 => lt ((54 : Int32) + x1) (fun y2 => bd (FX12_readName a0 (1 : Int32) (4 : Int32) (20 : Int32)) (fun (_ : Unit) => bd (FX12_takeWord a0 (3 : Int32)) (fun (_ : Unit) => bd (it (fun (s5 : Int32) => (bd (gI a0 8) (fun x6 => if x6 = 0 then jn (fun (v10 : Unit) => bd (FX12_toldHere a0 (1 : Int32) (0 : Int32)) (fun x11 => bd (gI a0 8) (fun x12 => bd (if x12 = 0 then if ((s5 >>> (x11 &&& 31)) &&& (1 : Int32)) = (1 : Int32) then bd (FX12_wrong a0 (3 : Int32)) (fun (_ : Unit) => pu ()) else pu () else pu () : PP (Unit)) (fun (v14 : Unit) => bd (gI a0 8) (fun x15 => bd (if x15 ≤ 0 then pu ((1 : Int32) <<< (x11 &&& 31)) else pu (0 : Int32) : PP (Int32)) (fun (v16 : Int32) => lt (s5 ||| v16) (fun y17 => bd (gI a0 7) (fun x18 => bd (gI a0 8) (fun x19 => bd (if x19 ≤ 0 then pu (1 : Int32) else pu (0 : Int32) : PP (Int32)) (fun (v20 : Int32) => bd (sI a0 7 (x18 + v20)) (fun (_ : Unit) => pu (Sum.inl y17)))))))))))) (fun j7 => if s5 = 0 then j7 () else bd (gI a0 7) (fun x8 => bd (aI (rf a0 4) 1002 x8) (fun x9 => if x9 = (1 : Int32) then j7 () else pu (Sum.inr s5)))) else pu (Sum.inr s5)) : PP ((Int32) ⊕ (Int32)))) FU (0 : Int32)) (fun (v21 : Int32) => bd (gI a0 8) (fun x22 => bd (if x22 = 0 then bd (uI (rf a0 10) 80 y2 v21) (fun (_ : Unit) => pu ()) else pu () : PP (Unit)) (fun (v23 : Unit) => pu ())))))))
set_option maxHeartbeats 4000000 in
set_option maxRecDepth 100000 in
theorem SX12_readPlace {l : Launch} {K : KK} {n : Nat} {hn : 270 ≤ n} (a0 : Nat) (h0 : ob a0 11) : CT l K n 4 mX12_readPlace [.ref (K.2.1 + a0)] enU (FX12_readPlace a0) := by
  refine CT.of2 (lv2 := [(0, .ref (K.2.1 + a0))]) (by decide) rfl hn (Nat.le_of_ble_eq_true rfl) rfl (rp_id ?_)
  unfold FX12_readPlace
  refine rp_bipush (54 : Int32) dX12_readPlace_0 (by decide) ?_
  refine rp_aload_n 0 dX12_readPlace_2 rfl ?_
  refine rp_getR fi_X12_83 h0 rfl dX12_readPlace_3 ?_
  refine rp_bipush (41 : Int32) dX12_readPlace_6 (by decide) ?_
  refine rp_iald (tX12_10 h0) dX12_readPlace_8 (fun x1 => ?_)
  refine rp_iadd dX12_readPlace_9 ?_
  refine rp_lti (fun y2 => ?_)
  refine rp_istore_n [(1, .int y2), (0, .ref (K.2.1 + a0))] dX12_readPlace_10 (by decide) rfl ?_
  refine rp_aload_n 1 dX12_readPlace_11 rfl ?_
  refine rp_iconst (1 : Int32) dX12_readPlace_12 (by decide) ?_
  refine rp_iconst (4 : Int32) dX12_readPlace_13 (by decide) ?_
  refine rp_bipush (20 : Int32) dX12_readPlace_14 (by decide) ?_
  refine rp_callVv [.int (1 : Int32), .int (4 : Int32), .int (20 : Int32)] (SX12_readName (hn := hn) a0 (1 : Int32) (4 : Int32) (20 : Int32) h0) cvX12_readName (mw (i := 1440) (by decide +kernel)) (by omega) h0 (by decide) rfl rfl rfl (Nat.le_of_ble_eq_true rfl) dX12_readPlace_16 (fun x3 => ?_)
  refine rp_aload_n 1 dX12_readPlace_19 rfl ?_
  refine rp_iconst (3 : Int32) dX12_readPlace_20 (by decide) ?_
  refine rp_callVv [.int (3 : Int32)] (SX12_takeWord (hn := hn) a0 (3 : Int32) h0) cvX12_takeWord (mw (i := 1464) (by decide +kernel)) (by omega) h0 (by decide) rfl rfl rfl (Nat.le_of_ble_eq_true rfl) dX12_readPlace_21 (fun x4 => ?_)
  refine rp_iconst (0 : Int32) dX12_readPlace_24 (by decide) ?_
  refine rp_istore_n [(2, .int (0 : Int32)), (1, .int y2), (0, .ref (K.2.1 + a0))] dX12_readPlace_25 (by decide) rfl ?_
  refine rp_as ?_
  refine rp_join 119 (fun v21 => [(0, .ref (K.2.1 + a0)), (1, .int y2), (2, .int v21)]) (fun _ => []) (fun v21 => ?_) (fun hX26_0 => ?_)
  · refine rp_aload_n 0 dX12_readPlace_119 rfl ?_
    refine rp_getI fi_X12_162 h0 rfl dX12_readPlace_120 (fun x22 => ?_)
    refine rp_as ?_
    refine rp_join 133 (fun (v23 : Unit) => []) (fun v23 => []) (fun v23 => ?_) (fun hJ133 => ?_)
    · exact rp_pu (rp_vret rfl dX12_readPlace_133)
    refine rp_if_ne 133 dX12_readPlace_123 (by decide) ?_ ?_
    · exact rp_sub [] rfl (rp_pu (hJ133 ()))
    · refine rp_aload_n 0 dX12_readPlace_126 rfl ?_
      refine rp_getR fi_X12_83 h0 rfl dX12_readPlace_127 ?_
      refine rp_iload_n 1 dX12_readPlace_130 rfl ?_
      refine rp_iload_n 2 dX12_readPlace_131 rfl ?_
      refine rp_iast (tX12_10 h0) dX12_readPlace_132 ?_
      exact rp_sub [] rfl (rp_pu (hJ133 ()))
  refine rp_sub [2, 1, 0] rfl (rp_it (fun (s5 : Int32) => [(0, .ref (K.2.1 + a0)), (1, .int y2), (2, .int s5)]) (fun N26 ih26 s5 => ?_) FU (0 : Int32))
  refine rp_aload_n 0 dX12_readPlace_26 rfl ?_
  refine rp_getI fi_X12_162 h0 rfl dX12_readPlace_27 (fun x6 => ?_)
  refine rp_if_ne 119 dX12_readPlace_30 (by decide) ?_ ?_
  · exact rp_sub [0, 1, 2] rfl (rp_pu (hX26_0 s5))
  · refine rp_iload_n 2 dX12_readPlace_33 rfl ?_
    refine rp_jn2 50 (fun (v10 : Unit) => [(0, .ref (K.2.1 + a0)), (1, .int y2), (2, .int s5)]) (fun v10 => []) (fun v10 => ?_) (fun hK50 => ?_)
    · refine rp_aload_n 0 dX12_readPlace_50 rfl ?_
      refine rp_iconst (1 : Int32) dX12_readPlace_51 (by decide) ?_
      refine rp_iconst (0 : Int32) dX12_readPlace_52 (by decide) ?_
      refine rp_callVi [.int (1 : Int32), .int (0 : Int32)] (SX12_toldHere (hn := hn) a0 (1 : Int32) (0 : Int32) h0) cvX12_toldHere (mw (i := 1480) (by decide +kernel)) (by omega) h0 (by decide) rfl rfl rfl (Nat.le_of_ble_eq_true rfl) dX12_readPlace_53 (fun x11 => ?_)
      refine rp_istore_n [(3, .int x11), (0, .ref (K.2.1 + a0)), (1, .int y2), (2, .int s5)] dX12_readPlace_56 (by decide) rfl ?_
      refine rp_aload_n 1 dX12_readPlace_57 rfl ?_
      refine rp_getI fi_X12_162 h0 rfl dX12_readPlace_58 (fun x12 => ?_)
      refine rp_as ?_
      refine rp_join 78 (fun (v14 : Unit) => [(0, .ref (K.2.1 + a0)), (1, .int y2), (2, .int s5), (3, .int x11)]) (fun v14 => []) (fun v14 => ?_) (fun hJ78 => ?_)
      · refine rp_iload_n 2 dX12_readPlace_78 rfl ?_
        refine rp_aload_n 0 dX12_readPlace_79 rfl ?_
        refine rp_getI fi_X12_162 h0 rfl dX12_readPlace_80 (fun x15 => ?_)
        refine rp_as ?_
        refine rp_join 93 (fun (v16 : Int32) => [(0, .ref (K.2.1 + a0)), (1, .int y2)]) (fun v16 => [.int v16, .int s5]) (fun v16 => ?_) (fun hJ93 => ?_)
        · refine rp_ior dX12_readPlace_93 ?_
          refine rp_lti (fun y17 => ?_)
          refine rp_istore_n [(2, .int y17), (0, .ref (K.2.1 + a0)), (1, .int y2)] dX12_readPlace_94 (by decide) rfl ?_
          refine rp_aload_n 1 dX12_readPlace_95 rfl ?_
          refine rp_dup dX12_readPlace_96 rfl ?_
          refine rp_getI fi_X12_159 h0 rfl dX12_readPlace_97 (fun x18 => ?_)
          refine rp_aload_n 1 dX12_readPlace_100 rfl ?_
          refine rp_getI fi_X12_162 h0 rfl dX12_readPlace_101 (fun x19 => ?_)
          refine rp_as ?_
          refine rp_join 112 (fun (v20 : Int32) => [(0, .ref (K.2.1 + a0)), (1, .int y2), (2, .int y17)]) (fun v20 => [.int v20, .int x18, .ref (K.2.1 + a0)]) (fun v20 => ?_) (fun hJ112 => ?_)
          · refine rp_iadd dX12_readPlace_112 ?_
            refine rp_putI fi_X12_159 fp_X12_7 h0 rfl dX12_readPlace_113 ?_
            refine rp_goto 26 dX12_readPlace_116 (by decide) ?_
            exact rp_sub [0, 1, 2] rfl (ih26 y17)
          refine rp_if_le 111 dX12_readPlace_104 (by decide) ?_ ?_
          · refine rp_iconst (1 : Int32) dX12_readPlace_111 (by decide) ?_
            exact rp_sub [1, 2, 0] rfl (rp_pu (hJ112 (1 : Int32)))
          · refine rp_iconst (0 : Int32) dX12_readPlace_107 (by decide) ?_
            refine rp_goto 112 dX12_readPlace_108 (by decide) ?_
            exact rp_sub [1, 2, 0] rfl (rp_pu (hJ112 (0 : Int32)))
        refine rp_if_le 90 dX12_readPlace_83 (by decide) ?_ ?_
        · refine rp_iconst (1 : Int32) dX12_readPlace_90 (by decide) ?_
          refine rp_iload_n 3 dX12_readPlace_91 rfl ?_
          refine rp_ishl dX12_readPlace_92 ?_
          exact rp_sub [0, 1] rfl (rp_pu (hJ93 ((1 : Int32) <<< (x11 &&& 31))))
        · refine rp_iconst (0 : Int32) dX12_readPlace_86 (by decide) ?_
          refine rp_goto 93 dX12_readPlace_87 (by decide) ?_
          exact rp_sub [0, 1] rfl (rp_pu (hJ93 (0 : Int32)))
      refine rp_if_ne 78 dX12_readPlace_61 (by decide) ?_ ?_
      · exact rp_sub [1, 2, 3, 0] rfl (rp_pu (hJ78 ()))
      · refine rp_iload_n 3 dX12_readPlace_64 rfl ?_
        refine rp_iload_n 0 dX12_readPlace_65 rfl ?_
        refine rp_ishr dX12_readPlace_66 ?_
        refine rp_iconst (1 : Int32) dX12_readPlace_67 (by decide) ?_
        refine rp_iand dX12_readPlace_68 ?_
        refine rp_iconst (1 : Int32) dX12_readPlace_69 (by decide) ?_
        refine rp_icmp_ne 78 dX12_readPlace_70 (by decide) ?_ ?_
        · exact rp_sub [1, 2, 3, 0] rfl (rp_pu (hJ78 ()))
        · refine rp_aload_n 1 dX12_readPlace_73 rfl ?_
          refine rp_iconst (3 : Int32) dX12_readPlace_74 (by decide) ?_
          refine rp_callVv [.int (3 : Int32)] (SX12_wrong (hn := hn) a0 (3 : Int32) h0) cvX12_wrong (mw (i := 1444) (by decide +kernel)) (by omega) h0 (by decide) rfl rfl rfl (Nat.le_of_ble_eq_true rfl) dX12_readPlace_75 (fun x13 => ?_)
          exact rp_sub [1, 2, 3, 0] rfl (rp_pu (hJ78 ()))
    refine rp_if_eq 50 dX12_readPlace_34 (by decide) ?_ ?_
    · exact rp_sub [0, 1, 2] rfl (hK50 ())
    · refine rp_aload_n 0 dX12_readPlace_37 rfl ?_
      refine rp_getR fi_X12_24 h0 rfl dX12_readPlace_38 ?_
      refine rp_aload_n 0 dX12_readPlace_41 rfl ?_
      refine rp_getI fi_X12_159 h0 rfl dX12_readPlace_42 (fun x8 => ?_)
      refine rp_iald (tX12_4 h0) dX12_readPlace_45 (fun x9 => ?_)
      refine rp_iconst (1 : Int32) dX12_readPlace_46 (by decide) ?_
      refine rp_icmp_ne 119 dX12_readPlace_47 (by decide) ?_ ?_
      · exact rp_sub [0, 1, 2] rfl (rp_pu (hX26_0 s5))
      · exact rp_sub [0, 1, 2] rfl (hK50 ())

theorem dX12_readLine_0 : decode cX12_readLine 0 = .ok (.aload_n 0, 1) := by decide +kernel
theorem dX12_readLine_1 : decode cX12_readLine 1 = .ok (.iconst 0, 1) := by decide +kernel
theorem dX12_readLine_2 : decode cX12_readLine 2 = .ok (.invokevirtual 171, 3) := by decide +kernel
theorem dX12_readLine_5 : decode cX12_readLine 5 = .ok (.ifCond .eq 49, 3) := by decide +kernel
theorem dX12_readLine_8 : decode cX12_readLine 8 = .ok (.bipush 44, 2) := by decide +kernel
theorem dX12_readLine_10 : decode cX12_readLine 10 = .ok (.iconst 2, 1) := by decide +kernel
theorem dX12_readLine_11 : decode cX12_readLine 11 = .ok (.aload_n 0, 1) := by decide +kernel
theorem dX12_readLine_12 : decode cX12_readLine 12 = .ok (.getfield 83, 3) := by decide +kernel
theorem dX12_readLine_15 : decode cX12_readLine 15 = .ok (.bipush 40, 2) := by decide +kernel
theorem dX12_readLine_17 : decode cX12_readLine 17 = .ok (.iaload, 1) := by decide +kernel
theorem dX12_readLine_18 : decode cX12_readLine 18 = .ok (.imul, 1) := by decide +kernel
theorem dX12_readLine_19 : decode cX12_readLine 19 = .ok (.iadd, 1) := by decide +kernel
theorem dX12_readLine_20 : decode cX12_readLine 20 = .ok (.istore_n 1, 1) := by decide +kernel
theorem dX12_readLine_21 : decode cX12_readLine 21 = .ok (.aload_n 0, 1) := by decide +kernel
theorem dX12_readLine_22 : decode cX12_readLine 22 = .ok (.iconst 0, 1) := by decide +kernel
theorem dX12_readLine_23 : decode cX12_readLine 23 = .ok (.iconst 5, 1) := by decide +kernel
theorem dX12_readLine_24 : decode cX12_readLine 24 = .ok (.iconst 0, 1) := by decide +kernel
theorem dX12_readLine_25 : decode cX12_readLine 25 = .ok (.invokevirtual 221, 3) := by decide +kernel
theorem dX12_readLine_28 : decode cX12_readLine 28 = .ok (.aload_n 0, 1) := by decide +kernel
theorem dX12_readLine_29 : decode cX12_readLine 29 = .ok (.iconst 1, 1) := by decide +kernel
theorem dX12_readLine_30 : decode cX12_readLine 30 = .ok (.iconst 1, 1) := by decide +kernel
theorem dX12_readLine_31 : decode cX12_readLine 31 = .ok (.bipush 9, 2) := by decide +kernel
theorem dX12_readLine_33 : decode cX12_readLine 33 = .ok (.invokevirtual 225, 3) := by decide +kernel
theorem dX12_readLine_36 : decode cX12_readLine 36 = .ok (.istore_n 2, 1) := by decide +kernel
theorem dX12_readLine_37 : decode cX12_readLine 37 = .ok (.aload_n 0, 1) := by decide +kernel
theorem dX12_readLine_38 : decode cX12_readLine 38 = .ok (.getfield 162, 3) := by decide +kernel
theorem dX12_readLine_41 : decode cX12_readLine 41 = .ok (.ifCond .ne 10, 3) := by decide +kernel
theorem dX12_readLine_44 : decode cX12_readLine 44 = .ok (.aload_n 0, 1) := by decide +kernel
theorem dX12_readLine_45 : decode cX12_readLine 45 = .ok (.getfield 83, 3) := by decide +kernel
theorem dX12_readLine_48 : decode cX12_readLine 48 = .ok (.iload_n 1, 1) := by decide +kernel
theorem dX12_readLine_49 : decode cX12_readLine 49 = .ok (.iload_n 2, 1) := by decide +kernel
theorem dX12_readLine_50 : decode cX12_readLine 50 = .ok (.iastore, 1) := by decide +kernel
theorem dX12_readLine_51 : decode cX12_readLine 51 = .ok (.goto 111, 3) := by decide +kernel
theorem dX12_readLine_54 : decode cX12_readLine 54 = .ok (.aload_n 0, 1) := by decide +kernel
theorem dX12_readLine_55 : decode cX12_readLine 55 = .ok (.iconst 2, 1) := by decide +kernel
theorem dX12_readLine_56 : decode cX12_readLine 56 = .ok (.invokevirtual 171, 3) := by decide +kernel
theorem dX12_readLine_59 : decode cX12_readLine 59 = .ok (.ifCond .eq 10, 3) := by decide +kernel
theorem dX12_readLine_62 : decode cX12_readLine 62 = .ok (.aload_n 0, 1) := by decide +kernel
theorem dX12_readLine_63 : decode cX12_readLine 63 = .ok (.invokevirtual 229, 3) := by decide +kernel
theorem dX12_readLine_66 : decode cX12_readLine 66 = .ok (.goto 96, 3) := by decide +kernel
theorem dX12_readLine_69 : decode cX12_readLine 69 = .ok (.aload_n 0, 1) := by decide +kernel
theorem dX12_readLine_70 : decode cX12_readLine 70 = .ok (.iconst 4, 1) := by decide +kernel
theorem dX12_readLine_71 : decode cX12_readLine 71 = .ok (.invokevirtual 171, 3) := by decide +kernel
theorem dX12_readLine_74 : decode cX12_readLine 74 = .ok (.ifCond .eq 68, 3) := by decide +kernel
theorem dX12_readLine_77 : decode cX12_readLine 77 = .ok (.bipush 58, 2) := by decide +kernel
theorem dX12_readLine_79 : decode cX12_readLine 79 = .ok (.iconst 2, 1) := by decide +kernel
theorem dX12_readLine_80 : decode cX12_readLine 80 = .ok (.aload_n 0, 1) := by decide +kernel
theorem dX12_readLine_81 : decode cX12_readLine 81 = .ok (.getfield 83, 3) := by decide +kernel
theorem dX12_readLine_84 : decode cX12_readLine 84 = .ok (.bipush 42, 2) := by decide +kernel
theorem dX12_readLine_86 : decode cX12_readLine 86 = .ok (.iaload, 1) := by decide +kernel
theorem dX12_readLine_87 : decode cX12_readLine 87 = .ok (.imul, 1) := by decide +kernel
theorem dX12_readLine_88 : decode cX12_readLine 88 = .ok (.iadd, 1) := by decide +kernel
theorem dX12_readLine_89 : decode cX12_readLine 89 = .ok (.istore_n 1, 1) := by decide +kernel
theorem dX12_readLine_90 : decode cX12_readLine 90 = .ok (.aload_n 0, 1) := by decide +kernel
theorem dX12_readLine_91 : decode cX12_readLine 91 = .ok (.iconst 2, 1) := by decide +kernel
theorem dX12_readLine_92 : decode cX12_readLine 92 = .ok (.bipush 6, 2) := by decide +kernel
theorem dX12_readLine_94 : decode cX12_readLine 94 = .ok (.bipush 40, 2) := by decide +kernel
theorem dX12_readLine_96 : decode cX12_readLine 96 = .ok (.invokevirtual 221, 3) := by decide +kernel
theorem dX12_readLine_99 : decode cX12_readLine 99 = .ok (.aload_n 0, 1) := by decide +kernel
theorem dX12_readLine_100 : decode cX12_readLine 100 = .ok (.bipush 12, 2) := by decide +kernel
theorem dX12_readLine_102 : decode cX12_readLine 102 = .ok (.iconst 4, 1) := by decide +kernel
theorem dX12_readLine_103 : decode cX12_readLine 103 = .ok (.invokevirtual 232, 3) := by decide +kernel
theorem dX12_readLine_106 : decode cX12_readLine 106 = .ok (.istore_n 2, 1) := by decide +kernel
theorem dX12_readLine_107 : decode cX12_readLine 107 = .ok (.aload_n 0, 1) := by decide +kernel
theorem dX12_readLine_108 : decode cX12_readLine 108 = .ok (.iconst 5, 1) := by decide +kernel
theorem dX12_readLine_109 : decode cX12_readLine 109 = .ok (.iconst 1, 1) := by decide +kernel
theorem dX12_readLine_110 : decode cX12_readLine 110 = .ok (.bipush 20, 2) := by decide +kernel
theorem dX12_readLine_112 : decode cX12_readLine 112 = .ok (.invokevirtual 225, 3) := by decide +kernel
theorem dX12_readLine_115 : decode cX12_readLine 115 = .ok (.istore_n 3, 1) := by decide +kernel
theorem dX12_readLine_116 : decode cX12_readLine 116 = .ok (.aload_n 0, 1) := by decide +kernel
theorem dX12_readLine_117 : decode cX12_readLine 117 = .ok (.getfield 162, 3) := by decide +kernel
theorem dX12_readLine_120 : decode cX12_readLine 120 = .ok (.ifCond .ne 19, 3) := by decide +kernel
theorem dX12_readLine_123 : decode cX12_readLine 123 = .ok (.aload_n 0, 1) := by decide +kernel
theorem dX12_readLine_124 : decode cX12_readLine 124 = .ok (.getfield 83, 3) := by decide +kernel
theorem dX12_readLine_127 : decode cX12_readLine 127 = .ok (.iload_n 1, 1) := by decide +kernel
theorem dX12_readLine_128 : decode cX12_readLine 128 = .ok (.iload_n 2, 1) := by decide +kernel
theorem dX12_readLine_129 : decode cX12_readLine 129 = .ok (.iastore, 1) := by decide +kernel
theorem dX12_readLine_130 : decode cX12_readLine 130 = .ok (.aload_n 0, 1) := by decide +kernel
theorem dX12_readLine_131 : decode cX12_readLine 131 = .ok (.getfield 83, 3) := by decide +kernel
theorem dX12_readLine_134 : decode cX12_readLine 134 = .ok (.iload_n 1, 1) := by decide +kernel
theorem dX12_readLine_135 : decode cX12_readLine 135 = .ok (.iconst 1, 1) := by decide +kernel
theorem dX12_readLine_136 : decode cX12_readLine 136 = .ok (.iadd, 1) := by decide +kernel
theorem dX12_readLine_137 : decode cX12_readLine 137 = .ok (.iload_n 3, 1) := by decide +kernel
theorem dX12_readLine_138 : decode cX12_readLine 138 = .ok (.iastore, 1) := by decide +kernel
theorem dX12_readLine_139 : decode cX12_readLine 139 = .ok (.goto 23, 3) := by decide +kernel
theorem dX12_readLine_142 : decode cX12_readLine 142 = .ok (.aload_n 0, 1) := by decide +kernel
theorem dX12_readLine_143 : decode cX12_readLine 143 = .ok (.bipush 6, 2) := by decide +kernel
theorem dX12_readLine_145 : decode cX12_readLine 145 = .ok (.invokevirtual 171, 3) := by decide +kernel
theorem dX12_readLine_148 : decode cX12_readLine 148 = .ok (.ifCond .eq 10, 3) := by decide +kernel
theorem dX12_readLine_151 : decode cX12_readLine 151 = .ok (.aload_n 0, 1) := by decide +kernel
theorem dX12_readLine_152 : decode cX12_readLine 152 = .ok (.invokevirtual 235, 3) := by decide +kernel
theorem dX12_readLine_155 : decode cX12_readLine 155 = .ok (.goto 7, 3) := by decide +kernel
theorem dX12_readLine_158 : decode cX12_readLine 158 = .ok (.aload_n 0, 1) := by decide +kernel
theorem dX12_readLine_159 : decode cX12_readLine 159 = .ok (.invokevirtual 238, 3) := by decide +kernel
theorem dX12_readLine_162 : decode cX12_readLine 162 = .ok (.return_, 1) := by decide +kernel
abbrev mX12_readLine : MI := (RX12, yX12_readLine, cX12_readLine, 4, none)
theorem cvX12_readLine : CV mX12_readLine 0 := ⟨⟨mw (i := 1435) (by decide +kernel), mw (i := 12) (by decide +kernel), ⟨by decide +kernel, by decide +kernel, by decide +kernel⟩, by decide⟩, mw (i := 1434) (by decide +kernel), mp2 (i := 43) 31 (by decide +kernel)⟩
def FX12_readLine (a0 : Nat) : PP Unit := bd (FX12_isWord a0 (0 : Int32)) (fun x1 => bd (if ((b2i x1)) = 0 then bd (FX12_isWord a0 (2 : Int32)) (fun x2 => if ((b2i x2)) = 0 then bd (FX12_isWord a0 (4 : Int32)) (fun x3 => if ((b2i x3)) = 0 then bd (FX12_isWord a0 (6 : Int32)) (fun x4 => if ((b2i x4)) = 0 then bd (FX12_readDries a0) (fun (_ : Unit) => pu ()) else bd (FX12_readCrosses a0) (fun (_ : Unit) => pu ())) else bd (aI (rf a0 10) 80 (42 : Int32)) (fun x7 => lt ((58 : Int32) + ((2 : Int32) * x7)) (fun y8 => bd (FX12_readName a0 (2 : Int32) (6 : Int32) (40 : Int32)) (fun (_ : Unit) => bd (FX12_takeOne a0 (12 : Int32) (4 : Int32)) (fun x10 => bd (FX12_takeAfter a0 (5 : Int32) (1 : Int32) (20 : Int32)) (fun x11 => bd (gI a0 8) (fun x12 => bd (if x12 = 0 then bd (uI (rf a0 10) 80 y8 x10) (fun (_ : Unit) => bd (uI (rf a0 10) 80 (y8 + (1 : Int32)) x11) (fun (_ : Unit) => pu ())) else pu () : PP (Unit)) (fun (v13 : Unit) => pu ())))))))) else bd (FX12_readPlace a0) (fun (_ : Unit) => pu ())) else bd (aI (rf a0 10) 80 (40 : Int32)) (fun x15 => lt ((44 : Int32) + ((2 : Int32) * x15)) (fun y16 => bd (FX12_readName a0 (0 : Int32) (5 : Int32) (0 : Int32)) (fun (_ : Unit) => bd (FX12_takeAfter a0 (1 : Int32) (1 : Int32) (9 : Int32)) (fun x18 => bd (gI a0 8) (fun x19 => bd (if x19 = 0 then bd (uI (rf a0 10) 80 y16 x18) (fun (_ : Unit) => pu ()) else pu () : PP (Unit)) (fun (v20 : Unit) => pu ())))))) : PP (Unit)) (fun (v21 : Unit) => pu ()))
set_option maxHeartbeats 4000000 in
set_option maxRecDepth 100000 in
theorem SX12_readLine {l : Launch} {K : KK} {n : Nat} {hn : 270 ≤ n} (a0 : Nat) (h0 : ob a0 11) : CT l K n 67 mX12_readLine [.ref (K.2.1 + a0)] enU (FX12_readLine a0) := by
  refine CT.of2 (lv2 := [(0, .ref (K.2.1 + a0))]) (by decide) rfl hn (Nat.le_of_ble_eq_true rfl) rfl (rp_id ?_)
  unfold FX12_readLine
  refine rp_aload_n 0 dX12_readLine_0 rfl ?_
  refine rp_iconst (0 : Int32) dX12_readLine_1 (by decide) ?_
  refine rp_callVz [.int (0 : Int32)] (SX12_isWord (hn := hn) a0 (0 : Int32) h0) cvX12_isWord (mw (i := 1436) (by decide +kernel)) (by omega) h0 (by decide) rfl rfl rfl (Nat.le_of_ble_eq_true rfl) dX12_readLine_2 (fun x1 => ?_)
  refine rp_as ?_
  refine rp_join 162 (fun (v21 : Unit) => []) (fun v21 => []) (fun v21 => ?_) (fun hJ162 => ?_)
  · exact rp_pu (rp_vret rfl dX12_readLine_162)
  refine rp_if_eq 54 dX12_readLine_5 (by decide) ?_ ?_
  · refine rp_aload_n 0 dX12_readLine_54 rfl ?_
    refine rp_iconst (2 : Int32) dX12_readLine_55 (by decide) ?_
    refine rp_callVz [.int (2 : Int32)] (SX12_isWord (hn := hn) a0 (2 : Int32) h0) cvX12_isWord (mw (i := 1436) (by decide +kernel)) (by omega) h0 (by decide) rfl rfl rfl (Nat.le_of_ble_eq_true rfl) dX12_readLine_56 (fun x2 => ?_)
    refine rp_if_eq 69 dX12_readLine_59 (by decide) ?_ ?_
    · refine rp_aload_n 0 dX12_readLine_69 rfl ?_
      refine rp_iconst (4 : Int32) dX12_readLine_70 (by decide) ?_
      refine rp_callVz [.int (4 : Int32)] (SX12_isWord (hn := hn) a0 (4 : Int32) h0) cvX12_isWord (mw (i := 1436) (by decide +kernel)) (by omega) h0 (by decide) rfl rfl rfl (Nat.le_of_ble_eq_true rfl) dX12_readLine_71 (fun x3 => ?_)
      refine rp_if_eq 142 dX12_readLine_74 (by decide) ?_ ?_
      · refine rp_aload_n 0 dX12_readLine_142 rfl ?_
        refine rp_bipush (6 : Int32) dX12_readLine_143 (by decide) ?_
        refine rp_callVz [.int (6 : Int32)] (SX12_isWord (hn := hn) a0 (6 : Int32) h0) cvX12_isWord (mw (i := 1436) (by decide +kernel)) (by omega) h0 (by decide) rfl rfl rfl (Nat.le_of_ble_eq_true rfl) dX12_readLine_145 (fun x4 => ?_)
        refine rp_if_eq 158 dX12_readLine_148 (by decide) ?_ ?_
        · refine rp_aload_n 0 dX12_readLine_158 rfl ?_
          refine rp_callVv [] (SX12_readDries (hn := hn) a0 h0) cvX12_readDries (mw (i := 1499) (by decide +kernel)) (by omega) h0 (by decide) rfl rfl rfl (Nat.le_of_ble_eq_true rfl) dX12_readLine_159 (fun x5 => ?_)
          exact rp_sub [] rfl (rp_pu (hJ162 ()))
        · refine rp_aload_n 0 dX12_readLine_151 rfl ?_
          refine rp_callVv [] (SX12_readCrosses (hn := hn) a0 h0) cvX12_readCrosses (mw (i := 1491) (by decide +kernel)) (by omega) h0 (by decide) rfl rfl rfl (Nat.le_of_ble_eq_true rfl) dX12_readLine_152 (fun x6 => ?_)
          refine rp_goto 162 dX12_readLine_155 (by decide) ?_
          exact rp_sub [] rfl (rp_pu (hJ162 ()))
      · refine rp_bipush (58 : Int32) dX12_readLine_77 (by decide) ?_
        refine rp_iconst (2 : Int32) dX12_readLine_79 (by decide) ?_
        refine rp_aload_n 0 dX12_readLine_80 rfl ?_
        refine rp_getR fi_X12_83 h0 rfl dX12_readLine_81 ?_
        refine rp_bipush (42 : Int32) dX12_readLine_84 (by decide) ?_
        refine rp_iald (tX12_10 h0) dX12_readLine_86 (fun x7 => ?_)
        refine rp_imul dX12_readLine_87 ?_
        refine rp_iadd dX12_readLine_88 ?_
        refine rp_lti (fun y8 => ?_)
        refine rp_istore_n [(1, .int y8), (0, .ref (K.2.1 + a0))] dX12_readLine_89 (by decide) rfl ?_
        refine rp_aload_n 1 dX12_readLine_90 rfl ?_
        refine rp_iconst (2 : Int32) dX12_readLine_91 (by decide) ?_
        refine rp_bipush (6 : Int32) dX12_readLine_92 (by decide) ?_
        refine rp_bipush (40 : Int32) dX12_readLine_94 (by decide) ?_
        refine rp_callVv [.int (2 : Int32), .int (6 : Int32), .int (40 : Int32)] (SX12_readName (hn := hn) a0 (2 : Int32) (6 : Int32) (40 : Int32) h0) cvX12_readName (mw (i := 1440) (by decide +kernel)) (by omega) h0 (by decide) rfl rfl rfl (Nat.le_of_ble_eq_true rfl) dX12_readLine_96 (fun x9 => ?_)
        refine rp_aload_n 1 dX12_readLine_99 rfl ?_
        refine rp_bipush (12 : Int32) dX12_readLine_100 (by decide) ?_
        refine rp_iconst (4 : Int32) dX12_readLine_102 (by decide) ?_
        refine rp_callVi [.int (12 : Int32), .int (4 : Int32)] (SX12_takeOne (hn := hn) a0 (12 : Int32) (4 : Int32) h0) cvX12_takeOne (mw (i := 1487) (by decide +kernel)) (by omega) h0 (by decide) rfl rfl rfl (Nat.le_of_ble_eq_true rfl) dX12_readLine_103 (fun x10 => ?_)
        refine rp_istore_n [(2, .int x10), (1, .int y8), (0, .ref (K.2.1 + a0))] dX12_readLine_106 (by decide) rfl ?_
        refine rp_aload_n 2 dX12_readLine_107 rfl ?_
        refine rp_iconst (5 : Int32) dX12_readLine_108 (by decide) ?_
        refine rp_iconst (1 : Int32) dX12_readLine_109 (by decide) ?_
        refine rp_bipush (20 : Int32) dX12_readLine_110 (by decide) ?_
        refine rp_callVi [.int (5 : Int32), .int (1 : Int32), .int (20 : Int32)] (SX12_takeAfter (hn := hn) a0 (5 : Int32) (1 : Int32) (20 : Int32) h0) cvX12_takeAfter (mw (i := 1460) (by decide +kernel)) (by omega) h0 (by decide) rfl rfl rfl (Nat.le_of_ble_eq_true rfl) dX12_readLine_112 (fun x11 => ?_)
        refine rp_istore_n [(3, .int x11), (2, .int x10), (1, .int y8), (0, .ref (K.2.1 + a0))] dX12_readLine_115 (by decide) rfl ?_
        refine rp_aload_n 3 dX12_readLine_116 rfl ?_
        refine rp_getI fi_X12_162 h0 rfl dX12_readLine_117 (fun x12 => ?_)
        refine rp_as ?_
        refine rp_join 139 (fun (v13 : Unit) => []) (fun v13 => []) (fun v13 => ?_) (fun hJ139 => ?_)
        · refine rp_goto 162 dX12_readLine_139 (by decide) ?_
          exact rp_sub [] rfl (rp_pu (hJ162 ()))
        refine rp_if_ne 139 dX12_readLine_120 (by decide) ?_ ?_
        · exact rp_sub [] rfl (rp_pu (hJ139 ()))
        · refine rp_aload_n 3 dX12_readLine_123 rfl ?_
          refine rp_getR fi_X12_83 h0 rfl dX12_readLine_124 ?_
          refine rp_iload_n 2 dX12_readLine_127 rfl ?_
          refine rp_iload_n 1 dX12_readLine_128 rfl ?_
          refine rp_iast (tX12_10 h0) dX12_readLine_129 ?_
          refine rp_aload_n 3 dX12_readLine_130 rfl ?_
          refine rp_getR fi_X12_83 h0 rfl dX12_readLine_131 ?_
          refine rp_iload_n 2 dX12_readLine_134 rfl ?_
          refine rp_iconst (1 : Int32) dX12_readLine_135 (by decide) ?_
          refine rp_iadd dX12_readLine_136 ?_
          refine rp_iload_n 0 dX12_readLine_137 rfl ?_
          refine rp_iast (tX12_10 h0) dX12_readLine_138 ?_
          exact rp_sub [] rfl (rp_pu (hJ139 ()))
    · refine rp_aload_n 0 dX12_readLine_62 rfl ?_
      refine rp_callVv [] (SX12_readPlace (hn := hn) a0 h0) cvX12_readPlace (mw (i := 1476) (by decide +kernel)) (by omega) h0 (by decide) rfl rfl rfl (Nat.le_of_ble_eq_true rfl) dX12_readLine_63 (fun x14 => ?_)
      refine rp_goto 162 dX12_readLine_66 (by decide) ?_
      exact rp_sub [] rfl (rp_pu (hJ162 ()))
  · refine rp_bipush (44 : Int32) dX12_readLine_8 (by decide) ?_
    refine rp_iconst (2 : Int32) dX12_readLine_10 (by decide) ?_
    refine rp_aload_n 0 dX12_readLine_11 rfl ?_
    refine rp_getR fi_X12_83 h0 rfl dX12_readLine_12 ?_
    refine rp_bipush (40 : Int32) dX12_readLine_15 (by decide) ?_
    refine rp_iald (tX12_10 h0) dX12_readLine_17 (fun x15 => ?_)
    refine rp_imul dX12_readLine_18 ?_
    refine rp_iadd dX12_readLine_19 ?_
    refine rp_lti (fun y16 => ?_)
    refine rp_istore_n [(1, .int y16), (0, .ref (K.2.1 + a0))] dX12_readLine_20 (by decide) rfl ?_
    refine rp_aload_n 1 dX12_readLine_21 rfl ?_
    refine rp_iconst (0 : Int32) dX12_readLine_22 (by decide) ?_
    refine rp_iconst (5 : Int32) dX12_readLine_23 (by decide) ?_
    refine rp_iconst (0 : Int32) dX12_readLine_24 (by decide) ?_
    refine rp_callVv [.int (0 : Int32), .int (5 : Int32), .int (0 : Int32)] (SX12_readName (hn := hn) a0 (0 : Int32) (5 : Int32) (0 : Int32) h0) cvX12_readName (mw (i := 1440) (by decide +kernel)) (by omega) h0 (by decide) rfl rfl rfl (Nat.le_of_ble_eq_true rfl) dX12_readLine_25 (fun x17 => ?_)
    refine rp_aload_n 1 dX12_readLine_28 rfl ?_
    refine rp_iconst (1 : Int32) dX12_readLine_29 (by decide) ?_
    refine rp_iconst (1 : Int32) dX12_readLine_30 (by decide) ?_
    refine rp_bipush (9 : Int32) dX12_readLine_31 (by decide) ?_
    refine rp_callVi [.int (1 : Int32), .int (1 : Int32), .int (9 : Int32)] (SX12_takeAfter (hn := hn) a0 (1 : Int32) (1 : Int32) (9 : Int32) h0) cvX12_takeAfter (mw (i := 1460) (by decide +kernel)) (by omega) h0 (by decide) rfl rfl rfl (Nat.le_of_ble_eq_true rfl) dX12_readLine_33 (fun x18 => ?_)
    refine rp_istore_n [(2, .int x18), (1, .int y16), (0, .ref (K.2.1 + a0))] dX12_readLine_36 (by decide) rfl ?_
    refine rp_aload_n 2 dX12_readLine_37 rfl ?_
    refine rp_getI fi_X12_162 h0 rfl dX12_readLine_38 (fun x19 => ?_)
    refine rp_as ?_
    refine rp_join 51 (fun (v20 : Unit) => []) (fun v20 => []) (fun v20 => ?_) (fun hJ51 => ?_)
    · refine rp_goto 162 dX12_readLine_51 (by decide) ?_
      exact rp_sub [] rfl (rp_pu (hJ162 ()))
    refine rp_if_ne 51 dX12_readLine_41 (by decide) ?_ ?_
    · exact rp_sub [] rfl (rp_pu (hJ51 ()))
    · refine rp_aload_n 2 dX12_readLine_44 rfl ?_
      refine rp_getR fi_X12_83 h0 rfl dX12_readLine_45 ?_
      refine rp_iload_n 1 dX12_readLine_48 rfl ?_
      refine rp_iload_n 0 dX12_readLine_49 rfl ?_
      refine rp_iast (tX12_10 h0) dX12_readLine_50 ?_
      exact rp_sub [] rfl (rp_pu (hJ51 ()))

theorem dX12_street_0 : decode cX12_street 0 = .ok (.aload_n 0, 1) := by decide +kernel
theorem dX12_street_1 : decode cX12_street 1 = .ok (.iconst 0, 1) := by decide +kernel
theorem dX12_street_2 : decode cX12_street 2 = .ok (.putfield 1, 3) := by decide +kernel
theorem dX12_street_5 : decode cX12_street 5 = .ok (.aload_n 0, 1) := by decide +kernel
theorem dX12_street_6 : decode cX12_street 6 = .ok (.invokevirtual 209, 3) := by decide +kernel
theorem dX12_street_9 : decode cX12_street 9 = .ok (.aload_n 0, 1) := by decide +kernel
theorem dX12_street_10 : decode cX12_street 10 = .ok (.iconst 0, 1) := by decide +kernel
theorem dX12_street_11 : decode cX12_street 11 = .ok (.putfield 212, 3) := by decide +kernel
theorem dX12_street_14 : decode cX12_street 14 = .ok (.aload_n 0, 1) := by decide +kernel
theorem dX12_street_15 : decode cX12_street 15 = .ok (.iconst 0, 1) := by decide +kernel
theorem dX12_street_16 : decode cX12_street 16 = .ok (.putfield 187, 3) := by decide +kernel
theorem dX12_street_19 : decode cX12_street 19 = .ok (.aload_n 0, 1) := by decide +kernel
theorem dX12_street_20 : decode cX12_street 20 = .ok (.bipush 40, 2) := by decide +kernel
theorem dX12_street_22 : decode cX12_street 22 = .ok (.invokevirtual 129, 3) := by decide +kernel
theorem dX12_street_25 : decode cX12_street 25 = .ok (.aload_n 0, 1) := by decide +kernel
theorem dX12_street_26 : decode cX12_street 26 = .ok (.getfield 162, 3) := by decide +kernel
theorem dX12_street_29 : decode cX12_street 29 = .ok (.ifCond .ne 28, 3) := by decide +kernel
theorem dX12_street_32 : decode cX12_street 32 = .ok (.aload_n 0, 1) := by decide +kernel
theorem dX12_street_33 : decode cX12_street 33 = .ok (.getfield 24, 3) := by decide +kernel
theorem dX12_street_36 : decode cX12_street 36 = .ok (.aload_n 0, 1) := by decide +kernel
theorem dX12_street_37 : decode cX12_street 37 = .ok (.getfield 159, 3) := by decide +kernel
theorem dX12_street_40 : decode cX12_street 40 = .ok (.iaload, 1) := by decide +kernel
theorem dX12_street_41 : decode cX12_street 41 = .ok (.ifCond .eq 16, 3) := by decide +kernel
theorem dX12_street_44 : decode cX12_street 44 = .ok (.aload_n 0, 1) := by decide +kernel
theorem dX12_street_45 : decode cX12_street 45 = .ok (.invokevirtual 215, 3) := by decide +kernel
theorem dX12_street_48 : decode cX12_street 48 = .ok (.aload_n 0, 1) := by decide +kernel
theorem dX12_street_49 : decode cX12_street 49 = .ok (.bipush 59, 2) := by decide +kernel
theorem dX12_street_51 : decode cX12_street 51 = .ok (.invokevirtual 218, 3) := by decide +kernel
theorem dX12_street_54 : decode cX12_street 54 = .ok (.goto (-29), 3) := by decide +kernel
theorem dX12_street_57 : decode cX12_street 57 = .ok (.aload_n 0, 1) := by decide +kernel
theorem dX12_street_58 : decode cX12_street 58 = .ok (.getfield 162, 3) := by decide +kernel
theorem dX12_street_61 : decode cX12_street 61 = .ok (.ifCond .le 8, 3) := by decide +kernel
theorem dX12_street_64 : decode cX12_street 64 = .ok (.aload_n 0, 1) := by decide +kernel
theorem dX12_street_65 : decode cX12_street 65 = .ok (.getfield 162, 3) := by decide +kernel
theorem dX12_street_68 : decode cX12_street 68 = .ok (.ireturn, 1) := by decide +kernel
theorem dX12_street_69 : decode cX12_street 69 = .ok (.iconst 0, 1) := by decide +kernel
theorem dX12_street_70 : decode cX12_street 70 = .ok (.istore_n 1, 1) := by decide +kernel
theorem dX12_street_71 : decode cX12_street 71 = .ok (.iload_n 1, 1) := by decide +kernel
theorem dX12_street_72 : decode cX12_street 72 = .ok (.bipush 40, 2) := by decide +kernel
theorem dX12_street_74 : decode cX12_street 74 = .ok (.if_icmp .ge 24, 3) := by decide +kernel
theorem dX12_street_77 : decode cX12_street 77 = .ok (.aload_n 0, 1) := by decide +kernel
theorem dX12_street_78 : decode cX12_street 78 = .ok (.getfield 83, 3) := by decide +kernel
theorem dX12_street_81 : decode cX12_street 81 = .ok (.iload_n 1, 1) := by decide +kernel
theorem dX12_street_82 : decode cX12_street 82 = .ok (.aload_n 0, 1) := by decide +kernel
theorem dX12_street_83 : decode cX12_street 83 = .ok (.getfield 83, 3) := by decide +kernel
theorem dX12_street_86 : decode cX12_street 86 = .ok (.bipush 40, 2) := by decide +kernel
theorem dX12_street_88 : decode cX12_street 88 = .ok (.iload_n 1, 1) := by decide +kernel
theorem dX12_street_89 : decode cX12_street 89 = .ok (.iadd, 1) := by decide +kernel
theorem dX12_street_90 : decode cX12_street 90 = .ok (.iaload, 1) := by decide +kernel
theorem dX12_street_91 : decode cX12_street 91 = .ok (.iastore, 1) := by decide +kernel
theorem dX12_street_92 : decode cX12_street 92 = .ok (.iinc 1 1, 3) := by decide +kernel
theorem dX12_street_95 : decode cX12_street 95 = .ok (.goto (-24), 3) := by decide +kernel
theorem dX12_street_98 : decode cX12_street 98 = .ok (.iconst 0, 1) := by decide +kernel
theorem dX12_street_99 : decode cX12_street 99 = .ok (.istore_n 1, 1) := by decide +kernel
theorem dX12_street_100 : decode cX12_street 100 = .ok (.iload_n 1, 1) := by decide +kernel
theorem dX12_street_101 : decode cX12_street 101 = .ok (.aload_n 0, 1) := by decide +kernel
theorem dX12_street_102 : decode cX12_street 102 = .ok (.getfield 212, 3) := by decide +kernel
theorem dX12_street_105 : decode cX12_street 105 = .ok (.if_icmp .ge 41, 3) := by decide +kernel
theorem dX12_street_108 : decode cX12_street 108 = .ok (.aload_n 0, 1) := by decide +kernel
theorem dX12_street_109 : decode cX12_street 109 = .ok (.getfield 86, 3) := by decide +kernel
theorem dX12_street_112 : decode cX12_street 112 = .ok (.iload_n 1, 1) := by decide +kernel
theorem dX12_street_113 : decode cX12_street 113 = .ok (.aload_n 0, 1) := by decide +kernel
theorem dX12_street_114 : decode cX12_street 114 = .ok (.getfield 86, 3) := by decide +kernel
theorem dX12_street_117 : decode cX12_street 117 = .ok (.sipush 1100, 3) := by decide +kernel
theorem dX12_street_120 : decode cX12_street 120 = .ok (.iload_n 1, 1) := by decide +kernel
theorem dX12_street_121 : decode cX12_street 121 = .ok (.iadd, 1) := by decide +kernel
theorem dX12_street_122 : decode cX12_street 122 = .ok (.iaload, 1) := by decide +kernel
theorem dX12_street_123 : decode cX12_street 123 = .ok (.iastore, 1) := by decide +kernel
theorem dX12_street_124 : decode cX12_street 124 = .ok (.aload_n 0, 1) := by decide +kernel
theorem dX12_street_125 : decode cX12_street 125 = .ok (.getfield 89, 3) := by decide +kernel
theorem dX12_street_128 : decode cX12_street 128 = .ok (.iload_n 1, 1) := by decide +kernel
theorem dX12_street_129 : decode cX12_street 129 = .ok (.aload_n 0, 1) := by decide +kernel
theorem dX12_street_130 : decode cX12_street 130 = .ok (.getfield 89, 3) := by decide +kernel
theorem dX12_street_133 : decode cX12_street 133 = .ok (.sipush 1100, 3) := by decide +kernel
theorem dX12_street_136 : decode cX12_street 136 = .ok (.iload_n 1, 1) := by decide +kernel
theorem dX12_street_137 : decode cX12_street 137 = .ok (.iadd, 1) := by decide +kernel
theorem dX12_street_138 : decode cX12_street 138 = .ok (.iaload, 1) := by decide +kernel
theorem dX12_street_139 : decode cX12_street 139 = .ok (.iastore, 1) := by decide +kernel
theorem dX12_street_140 : decode cX12_street 140 = .ok (.iinc 1 1, 3) := by decide +kernel
theorem dX12_street_143 : decode cX12_street 143 = .ok (.goto (-43), 3) := by decide +kernel
theorem dX12_street_146 : decode cX12_street 146 = .ok (.iconst 0, 1) := by decide +kernel
theorem dX12_street_147 : decode cX12_street 147 = .ok (.istore_n 1, 1) := by decide +kernel
theorem dX12_street_148 : decode cX12_street 148 = .ok (.iload_n 1, 1) := by decide +kernel
theorem dX12_street_149 : decode cX12_street 149 = .ok (.aload_n 0, 1) := by decide +kernel
theorem dX12_street_150 : decode cX12_street 150 = .ok (.getfield 187, 3) := by decide +kernel
theorem dX12_street_153 : decode cX12_street 153 = .ok (.if_icmp .ge 33, 3) := by decide +kernel
theorem dX12_street_156 : decode cX12_street 156 = .ok (.aload_n 0, 1) := by decide +kernel
theorem dX12_street_157 : decode cX12_street 157 = .ok (.getfield 92, 3) := by decide +kernel
theorem dX12_street_160 : decode cX12_street 160 = .ok (.iload_n 1, 1) := by decide +kernel
theorem dX12_street_161 : decode cX12_street 161 = .ok (.aload_n 0, 1) := by decide +kernel
theorem dX12_street_162 : decode cX12_street 162 = .ok (.getfield 95, 3) := by decide +kernel
theorem dX12_street_165 : decode cX12_street 165 = .ok (.iload_n 1, 1) := by decide +kernel
theorem dX12_street_166 : decode cX12_street 166 = .ok (.laload, 1) := by decide +kernel
theorem dX12_street_167 : decode cX12_street 167 = .ok (.lastore, 1) := by decide +kernel
theorem dX12_street_168 : decode cX12_street 168 = .ok (.aload_n 0, 1) := by decide +kernel
theorem dX12_street_169 : decode cX12_street 169 = .ok (.getfield 98, 3) := by decide +kernel
theorem dX12_street_172 : decode cX12_street 172 = .ok (.iload_n 1, 1) := by decide +kernel
theorem dX12_street_173 : decode cX12_street 173 = .ok (.aload_n 0, 1) := by decide +kernel
theorem dX12_street_174 : decode cX12_street 174 = .ok (.getfield 101, 3) := by decide +kernel
theorem dX12_street_177 : decode cX12_street 177 = .ok (.iload_n 1, 1) := by decide +kernel
theorem dX12_street_178 : decode cX12_street 178 = .ok (.iaload, 1) := by decide +kernel
theorem dX12_street_179 : decode cX12_street 179 = .ok (.iastore, 1) := by decide +kernel
theorem dX12_street_180 : decode cX12_street 180 = .ok (.iinc 1 1, 3) := by decide +kernel
theorem dX12_street_183 : decode cX12_street 183 = .ok (.goto (-35), 3) := by decide +kernel
theorem dX12_street_186 : decode cX12_street 186 = .ok (.aload_n 0, 1) := by decide +kernel
theorem dX12_street_187 : decode cX12_street 187 = .ok (.aload_n 0, 1) := by decide +kernel
theorem dX12_street_188 : decode cX12_street 188 = .ok (.getfield 187, 3) := by decide +kernel
theorem dX12_street_191 : decode cX12_street 191 = .ok (.putfield 190, 3) := by decide +kernel
theorem dX12_street_194 : decode cX12_street 194 = .ok (.aload_n 0, 1) := by decide +kernel
theorem dX12_street_195 : decode cX12_street 195 = .ok (.invokevirtual 133, 3) := by decide +kernel
theorem dX12_street_198 : decode cX12_street 198 = .ok (.iconst 0, 1) := by decide +kernel
theorem dX12_street_199 : decode cX12_street 199 = .ok (.ireturn, 1) := by decide +kernel
abbrev mX12_street : MI := (RX12, yX12_street, cX12_street, 2, some .int)
theorem cvX12_street : CV mX12_street 0 := ⟨⟨mw (i := 1412) (by decide +kernel), mw (i := 12) (by decide +kernel), ⟨by decide +kernel, by decide +kernel, by decide +kernel⟩, by decide⟩, mw (i := 1410) (by decide +kernel), mw (i := 1411) (by decide +kernel)⟩
def FX12_street (a0 : Nat) : PP Int32 := bd (sI a0 0 (0 : Int32)) (fun (_ : Unit) => bd (FX12_cutAll a0) (fun (_ : Unit) => bd (sI a0 13 (0 : Int32)) (fun (_ : Unit) => bd (sI a0 19 (0 : Int32)) (fun (_ : Unit) => bd (FX12_standsAsAlways a0 (40 : Int32)) (fun (_ : Unit) => bd (it (fun (s3 : Unit) => (bd (gI a0 8) (fun x4 => if x4 = 0 then bd (gI a0 7) (fun x5 => bd (aI (rf a0 4) 1002 x5) (fun x6 => if x6 = 0 then pu (Sum.inr ()) else bd (FX12_readLine a0) (fun (_ : Unit) => bd (FX12_takeSign a0 (59 : Int32)) (fun (_ : Unit) => pu (Sum.inl ()))))) else pu (Sum.inr ())) : PP ((Unit) ⊕ (Unit)))) FU ()) (fun (v9 : Unit) => bd (gI a0 8) (fun x10 => if x10 ≤ 0 then bd (it (fun (s11 : Int32) => (if (40 : Int32) ≤ s11 then pu (Sum.inr ()) else bd (aI (rf a0 10) 80 ((40 : Int32) + s11)) (fun x12 => bd (uI (rf a0 10) 80 s11 x12) (fun (_ : Unit) => lt (s11 + (1 : Int32)) (fun y13 => pu (Sum.inl y13)))) : PP ((Int32) ⊕ (Unit)))) FU (0 : Int32)) (fun (v14 : Unit) => bd (it (fun (s15 : Int32) => (bd (gI a0 13) (fun x16 => if x16 ≤ s15 then pu (Sum.inr ()) else bd (aI (rf a0 11) 2200 ((1100 : Int32) + s15)) (fun x17 => bd (uI (rf a0 11) 2200 s15 x17) (fun (_ : Unit) => bd (aI (rf a0 12) 2200 ((1100 : Int32) + s15)) (fun x18 => bd (uI (rf a0 12) 2200 s15 x18) (fun (_ : Unit) => lt (s15 + (1 : Int32)) (fun y19 => pu (Sum.inl y19))))))) : PP ((Int32) ⊕ (Unit)))) FU (0 : Int32)) (fun (v20 : Unit) => bd (it (fun (s21 : Int32) => (bd (gI a0 19) (fun x22 => if x22 ≤ s21 then pu (Sum.inr ()) else bd (aL (rf a0 15) 15 s21) (fun x23 => bd (uL (rf a0 14) 15 s21 x23) (fun (_ : Unit) => bd (aI (rf a0 17) 15 s21) (fun x24 => bd (uI (rf a0 16) 15 s21 x24) (fun (_ : Unit) => lt (s21 + (1 : Int32)) (fun y25 => pu (Sum.inl y25))))))) : PP ((Int32) ⊕ (Unit)))) FU (0 : Int32)) (fun (v26 : Unit) => bd (gI a0 19) (fun x27 => bd (sI a0 18 x27) (fun (_ : Unit) => bd (FX12_begins a0) (fun (_ : Unit) => pu (0 : Int32))))))) else bd (gI a0 8) (fun x29 => pu x29))))))))
set_option maxHeartbeats 4000000 in
set_option maxRecDepth 100000 in
theorem SX12_street {l : Launch} {K : KK} {n : Nat} {hn : 270 ≤ n} (a0 : Nat) (h0 : ob a0 11) : CT l K n 68 mX12_street [.ref (K.2.1 + a0)] enI (FX12_street a0) := by
  refine CT.of2 (lv2 := [(0, .ref (K.2.1 + a0))]) (by decide) rfl hn (Nat.le_of_ble_eq_true rfl) rfl (rp_id ?_)
  unfold FX12_street
  refine rp_aload_n 0 dX12_street_0 rfl ?_
  refine rp_iconst (0 : Int32) dX12_street_1 (by decide) ?_
  refine rp_putI fi_X12_1 fp_X12_0 h0 rfl dX12_street_2 ?_
  refine rp_aload_n 0 dX12_street_5 rfl ?_
  refine rp_callVv [] (SX12_cutAll (hn := hn) a0 h0) cvX12_cutAll (mw (i := 1413) (by decide +kernel)) (by omega) h0 (by decide) rfl rfl rfl (Nat.le_of_ble_eq_true rfl) dX12_street_6 (fun x1 => ?_)
  refine rp_aload_n 0 dX12_street_9 rfl ?_
  refine rp_iconst (0 : Int32) dX12_street_10 (by decide) ?_
  refine rp_putI fi_X12_212 fp_X12_13 h0 rfl dX12_street_11 ?_
  refine rp_aload_n 0 dX12_street_14 rfl ?_
  refine rp_iconst (0 : Int32) dX12_street_15 (by decide) ?_
  refine rp_putI fi_X12_187 fp_X12_19 h0 rfl dX12_street_16 ?_
  refine rp_aload_n 0 dX12_street_19 rfl ?_
  refine rp_bipush (40 : Int32) dX12_street_20 (by decide) ?_
  refine rp_callVv [.int (40 : Int32)] (SX12_standsAsAlways (hn := hn) a0 (40 : Int32) h0) cvX12_standsAsAlways (mw (i := 1294) (by decide +kernel)) (by omega) h0 (by decide) rfl rfl rfl (Nat.le_of_ble_eq_true rfl) dX12_street_22 (fun x2 => ?_)
  refine rp_as ?_
  refine rp_join 57 (fun v9 => [(0, .ref (K.2.1 + a0))]) (fun _ => []) (fun v9 => ?_) (fun hX25_0 => ?_)
  · refine rp_aload_n 0 dX12_street_57 rfl ?_
    refine rp_getI fi_X12_162 h0 rfl dX12_street_58 (fun x10 => ?_)
    refine rp_if_le 69 dX12_street_61 (by decide) ?_ ?_
    · refine rp_iconst (0 : Int32) dX12_street_69 (by decide) ?_
      refine rp_istore_n [(1, .int (0 : Int32)), (0, .ref (K.2.1 + a0))] dX12_street_70 (by decide) rfl ?_
      refine rp_as ?_
      refine rp_join 98 (fun v14 => [(0, .ref (K.2.1 + a0))]) (fun _ => []) (fun v14 => ?_) (fun hX71_0 => ?_)
      · refine rp_iconst (0 : Int32) dX12_street_98 (by decide) ?_
        refine rp_istore_n [(1, .int (0 : Int32)), (0, .ref (K.2.1 + a0))] dX12_street_99 (by decide) rfl ?_
        refine rp_as ?_
        refine rp_join 146 (fun v20 => [(0, .ref (K.2.1 + a0))]) (fun _ => []) (fun v20 => ?_) (fun hX100_0 => ?_)
        · refine rp_iconst (0 : Int32) dX12_street_146 (by decide) ?_
          refine rp_istore_n [(1, .int (0 : Int32)), (0, .ref (K.2.1 + a0))] dX12_street_147 (by decide) rfl ?_
          refine rp_as ?_
          refine rp_join 186 (fun v26 => [(0, .ref (K.2.1 + a0))]) (fun _ => []) (fun v26 => ?_) (fun hX148_0 => ?_)
          · refine rp_aload_n 0 dX12_street_186 rfl ?_
            refine rp_aload_n 0 dX12_street_187 rfl ?_
            refine rp_getI fi_X12_187 h0 rfl dX12_street_188 (fun x27 => ?_)
            refine rp_putI fi_X12_190 fp_X12_18 h0 rfl dX12_street_191 ?_
            refine rp_aload_n 0 dX12_street_194 rfl ?_
            refine rp_callVv [] (SX12_begins (hn := hn) a0 h0) cvX12_begins (mw (i := 1298) (by decide +kernel)) (by omega) h0 (by decide) rfl rfl rfl (Nat.le_of_ble_eq_true rfl) dX12_street_195 (fun x28 => ?_)
            refine rp_iconst (0 : Int32) dX12_street_198 (by decide) ?_
            exact rp_pu (rp_iret rfl dX12_street_199)
          refine rp_sub [1, 0] rfl (rp_it (fun (s21 : Int32) => [(0, .ref (K.2.1 + a0)), (1, .int s21)]) (fun N148 ih148 s21 => ?_) FU (0 : Int32))
          refine rp_iload_n 1 dX12_street_148 rfl ?_
          refine rp_aload_n 0 dX12_street_149 rfl ?_
          refine rp_getI fi_X12_187 h0 rfl dX12_street_150 (fun x22 => ?_)
          refine rp_icmp_ge 186 dX12_street_153 (by decide) ?_ ?_
          · exact rp_sub [0] rfl (rp_pu (hX148_0 ()))
          · refine rp_aload_n 0 dX12_street_156 rfl ?_
            refine rp_getR fi_X12_92 h0 rfl dX12_street_157 ?_
            refine rp_iload_n 1 dX12_street_160 rfl ?_
            refine rp_aload_n 0 dX12_street_161 rfl ?_
            refine rp_getR fi_X12_95 h0 rfl dX12_street_162 ?_
            refine rp_iload_n 1 dX12_street_165 rfl ?_
            refine rp_lald (tX12_15 h0) dX12_street_166 (fun x23 => ?_)
            refine rp_last (tX12_14 h0) dX12_street_167 ?_
            refine rp_aload_n 0 dX12_street_168 rfl ?_
            refine rp_getR fi_X12_98 h0 rfl dX12_street_169 ?_
            refine rp_iload_n 1 dX12_street_172 rfl ?_
            refine rp_aload_n 0 dX12_street_173 rfl ?_
            refine rp_getR fi_X12_101 h0 rfl dX12_street_174 ?_
            refine rp_iload_n 1 dX12_street_177 rfl ?_
            refine rp_iald (tX12_17 h0) dX12_street_178 (fun x24 => ?_)
            refine rp_iast (tX12_16 h0) dX12_street_179 ?_
            refine rp_iinc (fun y25 => [(1, .int y25), (0, .ref (K.2.1 + a0))]) 1 dX12_street_180 rfl (by rfl) (by decide) (fun y25 => rfl) (fun y25 => ?_)
            refine rp_goto 148 dX12_street_183 (by decide) ?_
            exact rp_sub [1, 0] rfl (ih148 y25)
        refine rp_sub [1, 0] rfl (rp_it (fun (s15 : Int32) => [(0, .ref (K.2.1 + a0)), (1, .int s15)]) (fun N100 ih100 s15 => ?_) FU (0 : Int32))
        refine rp_iload_n 1 dX12_street_100 rfl ?_
        refine rp_aload_n 0 dX12_street_101 rfl ?_
        refine rp_getI fi_X12_212 h0 rfl dX12_street_102 (fun x16 => ?_)
        refine rp_icmp_ge 146 dX12_street_105 (by decide) ?_ ?_
        · exact rp_sub [0] rfl (rp_pu (hX100_0 ()))
        · refine rp_aload_n 0 dX12_street_108 rfl ?_
          refine rp_getR fi_X12_86 h0 rfl dX12_street_109 ?_
          refine rp_iload_n 1 dX12_street_112 rfl ?_
          refine rp_aload_n 0 dX12_street_113 rfl ?_
          refine rp_getR fi_X12_86 h0 rfl dX12_street_114 ?_
          refine rp_sipush (1100 : Int32) dX12_street_117 (by decide) ?_
          refine rp_iload_n 1 dX12_street_120 rfl ?_
          refine rp_iadd dX12_street_121 ?_
          refine rp_iald (tX12_11 h0) dX12_street_122 (fun x17 => ?_)
          refine rp_iast (tX12_11 h0) dX12_street_123 ?_
          refine rp_aload_n 0 dX12_street_124 rfl ?_
          refine rp_getR fi_X12_89 h0 rfl dX12_street_125 ?_
          refine rp_iload_n 1 dX12_street_128 rfl ?_
          refine rp_aload_n 0 dX12_street_129 rfl ?_
          refine rp_getR fi_X12_89 h0 rfl dX12_street_130 ?_
          refine rp_sipush (1100 : Int32) dX12_street_133 (by decide) ?_
          refine rp_iload_n 1 dX12_street_136 rfl ?_
          refine rp_iadd dX12_street_137 ?_
          refine rp_iald (tX12_12 h0) dX12_street_138 (fun x18 => ?_)
          refine rp_iast (tX12_12 h0) dX12_street_139 ?_
          refine rp_iinc (fun y19 => [(1, .int y19), (0, .ref (K.2.1 + a0))]) 1 dX12_street_140 rfl (by rfl) (by decide) (fun y19 => rfl) (fun y19 => ?_)
          refine rp_goto 100 dX12_street_143 (by decide) ?_
          exact rp_sub [1, 0] rfl (ih100 y19)
      refine rp_sub [1, 0] rfl (rp_it (fun (s11 : Int32) => [(0, .ref (K.2.1 + a0)), (1, .int s11)]) (fun N71 ih71 s11 => ?_) FU (0 : Int32))
      refine rp_iload_n 1 dX12_street_71 rfl ?_
      refine rp_bipush (40 : Int32) dX12_street_72 (by decide) ?_
      refine rp_icmp_ge 98 dX12_street_74 (by decide) ?_ ?_
      · exact rp_sub [0] rfl (rp_pu (hX71_0 ()))
      · refine rp_aload_n 0 dX12_street_77 rfl ?_
        refine rp_getR fi_X12_83 h0 rfl dX12_street_78 ?_
        refine rp_iload_n 1 dX12_street_81 rfl ?_
        refine rp_aload_n 0 dX12_street_82 rfl ?_
        refine rp_getR fi_X12_83 h0 rfl dX12_street_83 ?_
        refine rp_bipush (40 : Int32) dX12_street_86 (by decide) ?_
        refine rp_iload_n 1 dX12_street_88 rfl ?_
        refine rp_iadd dX12_street_89 ?_
        refine rp_iald (tX12_10 h0) dX12_street_90 (fun x12 => ?_)
        refine rp_iast (tX12_10 h0) dX12_street_91 ?_
        refine rp_iinc (fun y13 => [(1, .int y13), (0, .ref (K.2.1 + a0))]) 1 dX12_street_92 rfl (by rfl) (by decide) (fun y13 => rfl) (fun y13 => ?_)
        refine rp_goto 71 dX12_street_95 (by decide) ?_
        exact rp_sub [1, 0] rfl (ih71 y13)
    · refine rp_aload_n 0 dX12_street_64 rfl ?_
      refine rp_getI fi_X12_162 h0 rfl dX12_street_65 (fun x29 => ?_)
      exact rp_pu (rp_iret rfl dX12_street_68)
  refine rp_sub [0] rfl (rp_it (fun (s3 : Unit) => [(0, .ref (K.2.1 + a0))]) (fun N25 ih25 s3 => ?_) FU ())
  refine rp_aload_n 0 dX12_street_25 rfl ?_
  refine rp_getI fi_X12_162 h0 rfl dX12_street_26 (fun x4 => ?_)
  refine rp_if_ne 57 dX12_street_29 (by decide) ?_ ?_
  · exact rp_sub [0] rfl (rp_pu (hX25_0 ()))
  · refine rp_aload_n 0 dX12_street_32 rfl ?_
    refine rp_getR fi_X12_24 h0 rfl dX12_street_33 ?_
    refine rp_aload_n 0 dX12_street_36 rfl ?_
    refine rp_getI fi_X12_159 h0 rfl dX12_street_37 (fun x5 => ?_)
    refine rp_iald (tX12_4 h0) dX12_street_40 (fun x6 => ?_)
    refine rp_if_eq 57 dX12_street_41 (by decide) ?_ ?_
    · exact rp_sub [0] rfl (rp_pu (hX25_0 ()))
    · refine rp_aload_n 0 dX12_street_44 rfl ?_
      refine rp_callVv [] (SX12_readLine (hn := hn) a0 h0) cvX12_readLine (mw (i := 1432) (by decide +kernel)) (by omega) h0 (by decide) rfl rfl rfl (Nat.le_of_ble_eq_true rfl) dX12_street_45 (fun x7 => ?_)
      refine rp_aload_n 0 dX12_street_48 rfl ?_
      refine rp_bipush (59 : Int32) dX12_street_49 (by decide) ?_
      refine rp_callVv [.int (59 : Int32)] (SX12_takeSign (hn := hn) a0 (59 : Int32) h0) cvX12_takeSign (mw (i := 1535) (by decide +kernel)) (by omega) h0 (by decide) rfl rfl rfl (Nat.le_of_ble_eq_true rfl) dX12_street_51 (fun x8 => ?_)
      refine rp_goto 25 dX12_street_54 (by decide) ?_
      exact rp_sub [0] rfl (ih25 ())
