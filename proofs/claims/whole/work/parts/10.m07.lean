theorem dX12_feed_0 : decode cX12_feed 0 = .ok (.aload_n 0, 1) := by decide +kernel
theorem dX12_feed_1 : decode cX12_feed 1 = .ok (.iconst 0, 1) := by decide +kernel
theorem dX12_feed_2 : decode cX12_feed 2 = .ok (.putfield 1, 3) := by decide +kernel
theorem dX12_feed_5 : decode cX12_feed 5 = .ok (.aload_n 0, 1) := by decide +kernel
theorem dX12_feed_6 : decode cX12_feed 6 = .ok (.lload_n 1, 1) := by decide +kernel
theorem dX12_feed_7 : decode cX12_feed 7 = .ok (.invokevirtual 7, 3) := by decide +kernel
theorem dX12_feed_10 : decode cX12_feed 10 = .ok (.aload_n 0, 1) := by decide +kernel
theorem dX12_feed_11 : decode cX12_feed 11 = .ok (.lload_n 3, 1) := by decide +kernel
theorem dX12_feed_12 : decode cX12_feed 12 = .ok (.invokevirtual 7, 3) := by decide +kernel
theorem dX12_feed_15 : decode cX12_feed 15 = .ok (.aload_n 0, 1) := by decide +kernel
theorem dX12_feed_16 : decode cX12_feed 16 = .ok (.lload 5, 2) := by decide +kernel
theorem dX12_feed_18 : decode cX12_feed 18 = .ok (.invokevirtual 7, 3) := by decide +kernel
theorem dX12_feed_21 : decode cX12_feed 21 = .ok (.aload_n 0, 1) := by decide +kernel
theorem dX12_feed_22 : decode cX12_feed 22 = .ok (.getfield 11, 3) := by decide +kernel
theorem dX12_feed_25 : decode cX12_feed 25 = .ok (.ireturn, 1) := by decide +kernel
noncomputable def FX12_feed (a0 : Nat) (p1 : Int64) (p2 : Int64) (p3 : Int64) : PP Int32 := bd (sI a0 0 (0 : Int32)) (fun (_ : Unit) => bd (FX12_lay a0 p1) (fun (_ : Unit) => bd (FX12_lay a0 p2) (fun (_ : Unit) => bd (FX12_lay a0 p3) (fun (_ : Unit) => bd (gI a0 2) (fun x4 => pu x4)))))
set_option maxHeartbeats 4000000 in
set_option maxRecDepth 100000 in
theorem SX12_feed {l : Launch} {K : KK} {n : Nat} {hn : 270 ≤ n} (a0 : Nat) (p1 : Int64) (p2 : Int64) (p3 : Int64) (h0 : ob a0 11) : CT l K n 1 mX12_feed [.ref (K.2.1 + a0), .long p1, .long p2, .long p3] enI (FX12_feed a0 p1 p2 p3) := by
  refine CT.of2 (lv2 := [(0, .ref (K.2.1 + a0)), (1, .long p1), (3, .long p2), (5, .long p3)]) (by decide) rfl hn (Nat.le_of_ble_eq_true rfl) rfl (rp_id ?_)
  unfold FX12_feed
  refine rp_aload_n 0 dX12_feed_0 rfl ?_
  refine rp_iconst (0 : Int32) dX12_feed_1 (by decide) ?_
  refine rp_putI fi_X12_1 fp_X12_0 h0 rfl dX12_feed_2 ?_
  refine rp_aload_n 0 dX12_feed_5 rfl ?_
  refine rp_lload_n 1 dX12_feed_6 rfl ?_
  refine rp_callVv [.long p1] (SX12_lay (hn := hn) a0 p1 h0) cvX12_lay (mw (i := 1261) (by decide +kernel)) (by omega) h0 (by decide) rfl rfl rfl (Nat.le_of_ble_eq_true rfl) dX12_feed_7 (fun x1 => ?_)
  refine rp_aload_n 0 dX12_feed_10 rfl ?_
  refine rp_lload_n 2 dX12_feed_11 rfl ?_
  refine rp_callVv [.long p2] (SX12_lay (hn := hn) a0 p2 h0) cvX12_lay (mw (i := 1261) (by decide +kernel)) (by omega) h0 (by decide) rfl rfl rfl (Nat.le_of_ble_eq_true rfl) dX12_feed_12 (fun x2 => ?_)
  refine rp_aload_n 0 dX12_feed_15 rfl ?_
  refine rp_lload 3 dX12_feed_16 rfl ?_
  refine rp_callVv [.long p3] (SX12_lay (hn := hn) a0 p3 h0) cvX12_lay (mw (i := 1261) (by decide +kernel)) (by omega) h0 (by decide) rfl rfl rfl (Nat.le_of_ble_eq_true rfl) dX12_feed_18 (fun x3 => ?_)
  refine rp_aload_n 0 dX12_feed_21 rfl ?_
  refine rp_getI fi_X12_11 h0 rfl dX12_feed_22 (fun x4 => ?_)
  exact rp_pu (rp_iret rfl dX12_feed_25)

theorem dX12_isLetter_0 : decode cX12_isLetter 0 = .ok (.iload_n 0, 1) := by decide +kernel
theorem dX12_isLetter_1 : decode cX12_isLetter 1 = .ok (.bipush 97, 2) := by decide +kernel
theorem dX12_isLetter_3 : decode cX12_isLetter 3 = .ok (.if_icmp .lt 13, 3) := by decide +kernel
theorem dX12_isLetter_6 : decode cX12_isLetter 6 = .ok (.iload_n 0, 1) := by decide +kernel
theorem dX12_isLetter_7 : decode cX12_isLetter 7 = .ok (.bipush 122, 2) := by decide +kernel
theorem dX12_isLetter_9 : decode cX12_isLetter 9 = .ok (.if_icmp .gt 7, 3) := by decide +kernel
theorem dX12_isLetter_12 : decode cX12_isLetter 12 = .ok (.iconst 1, 1) := by decide +kernel
theorem dX12_isLetter_13 : decode cX12_isLetter 13 = .ok (.goto 4, 3) := by decide +kernel
theorem dX12_isLetter_16 : decode cX12_isLetter 16 = .ok (.iconst 0, 1) := by decide +kernel
theorem dX12_isLetter_17 : decode cX12_isLetter 17 = .ok (.ireturn, 1) := by decide +kernel
noncomputable def FX12_isLetter (p1 : Int32) : PP Bool := bd (if p1 < (97 : Int32) then pu (0 : Int32) else if (122 : Int32) < p1 then pu (0 : Int32) else pu (1 : Int32) : PP (Int32)) (fun (v1 : Int32) => zb v1)
set_option maxHeartbeats 4000000 in
set_option maxRecDepth 100000 in
theorem SX12_isLetter {l : Launch} {K : KK} {n : Nat} {hn : 270 ≤ n} (p1 : Int32) : CT l K n 0 mX12_isLetter [.int p1] enZ (FX12_isLetter p1) := by
  refine CT.of2 (lv2 := [(0, .int p1)]) (by decide) rfl hn (Nat.le_of_ble_eq_true rfl) rfl (rp_id ?_)
  unfold FX12_isLetter
  refine rp_iload_n 0 dX12_isLetter_0 rfl ?_
  refine rp_bipush (97 : Int32) dX12_isLetter_1 (by decide) ?_
  refine rp_as ?_
  refine rp_join 17 (fun (v1 : Int32) => []) (fun v1 => [.int v1]) (fun v1 => ?_) (fun hJ17 => ?_)
  · exact rp_zretb rfl dX12_isLetter_17
  refine rp_icmp_lt 16 dX12_isLetter_3 (by decide) ?_ ?_
  · refine rp_iconst (0 : Int32) dX12_isLetter_16 (by decide) ?_
    exact rp_sub [] rfl (rp_pu (hJ17 (0 : Int32)))
  · refine rp_iload_n 0 dX12_isLetter_6 rfl ?_
    refine rp_bipush (122 : Int32) dX12_isLetter_7 (by decide) ?_
    refine rp_icmp_gt 16 dX12_isLetter_9 (by decide) ?_ ?_
    · refine rp_iconst (0 : Int32) dX12_isLetter_16 (by decide) ?_
      exact rp_sub [] rfl (rp_pu (hJ17 (0 : Int32)))
    · refine rp_iconst (1 : Int32) dX12_isLetter_12 (by decide) ?_
      refine rp_goto 17 dX12_isLetter_13 (by decide) ?_
      exact rp_sub [] rfl (rp_pu (hJ17 (1 : Int32)))

theorem dX12_isDigit_0 : decode cX12_isDigit 0 = .ok (.iload_n 0, 1) := by decide +kernel
theorem dX12_isDigit_1 : decode cX12_isDigit 1 = .ok (.bipush 48, 2) := by decide +kernel
theorem dX12_isDigit_3 : decode cX12_isDigit 3 = .ok (.if_icmp .lt 13, 3) := by decide +kernel
theorem dX12_isDigit_6 : decode cX12_isDigit 6 = .ok (.iload_n 0, 1) := by decide +kernel
theorem dX12_isDigit_7 : decode cX12_isDigit 7 = .ok (.bipush 57, 2) := by decide +kernel
theorem dX12_isDigit_9 : decode cX12_isDigit 9 = .ok (.if_icmp .gt 7, 3) := by decide +kernel
theorem dX12_isDigit_12 : decode cX12_isDigit 12 = .ok (.iconst 1, 1) := by decide +kernel
theorem dX12_isDigit_13 : decode cX12_isDigit 13 = .ok (.goto 4, 3) := by decide +kernel
theorem dX12_isDigit_16 : decode cX12_isDigit 16 = .ok (.iconst 0, 1) := by decide +kernel
theorem dX12_isDigit_17 : decode cX12_isDigit 17 = .ok (.ireturn, 1) := by decide +kernel
noncomputable def FX12_isDigit (p1 : Int32) : PP Bool := bd (if p1 < (48 : Int32) then pu (0 : Int32) else if (57 : Int32) < p1 then pu (0 : Int32) else pu (1 : Int32) : PP (Int32)) (fun (v1 : Int32) => zb v1)
set_option maxHeartbeats 4000000 in
set_option maxRecDepth 100000 in
theorem SX12_isDigit {l : Launch} {K : KK} {n : Nat} {hn : 270 ≤ n} (p1 : Int32) : CT l K n 0 mX12_isDigit [.int p1] enZ (FX12_isDigit p1) := by
  refine CT.of2 (lv2 := [(0, .int p1)]) (by decide) rfl hn (Nat.le_of_ble_eq_true rfl) rfl (rp_id ?_)
  unfold FX12_isDigit
  refine rp_iload_n 0 dX12_isDigit_0 rfl ?_
  refine rp_bipush (48 : Int32) dX12_isDigit_1 (by decide) ?_
  refine rp_as ?_
  refine rp_join 17 (fun (v1 : Int32) => []) (fun v1 => [.int v1]) (fun v1 => ?_) (fun hJ17 => ?_)
  · exact rp_zretb rfl dX12_isDigit_17
  refine rp_icmp_lt 16 dX12_isDigit_3 (by decide) ?_ ?_
  · refine rp_iconst (0 : Int32) dX12_isDigit_16 (by decide) ?_
    exact rp_sub [] rfl (rp_pu (hJ17 (0 : Int32)))
  · refine rp_iload_n 0 dX12_isDigit_6 rfl ?_
    refine rp_bipush (57 : Int32) dX12_isDigit_7 (by decide) ?_
    refine rp_icmp_gt 16 dX12_isDigit_9 (by decide) ?_ ?_
    · refine rp_iconst (0 : Int32) dX12_isDigit_16 (by decide) ?_
      exact rp_sub [] rfl (rp_pu (hJ17 (0 : Int32)))
    · refine rp_iconst (1 : Int32) dX12_isDigit_12 (by decide) ?_
      refine rp_goto 17 dX12_isDigit_13 (by decide) ?_
      exact rp_sub [] rfl (rp_pu (hJ17 (1 : Int32)))

theorem dX12_rank_0 : decode cX12_rank 0 = .ok (.iload_n 0, 1) := by decide +kernel
theorem dX12_rank_1 : decode cX12_rank 1 = .ok (.invokestatic 136, 3) := by decide +kernel
theorem dX12_rank_4 : decode cX12_rank 4 = .ok (.ifCond .eq 10, 3) := by decide +kernel
theorem dX12_rank_7 : decode cX12_rank 7 = .ok (.iload_n 0, 1) := by decide +kernel
theorem dX12_rank_8 : decode cX12_rank 8 = .ok (.bipush 96, 2) := by decide +kernel
theorem dX12_rank_10 : decode cX12_rank 10 = .ok (.isub, 1) := by decide +kernel
theorem dX12_rank_11 : decode cX12_rank 11 = .ok (.goto 7, 3) := by decide +kernel
theorem dX12_rank_14 : decode cX12_rank 14 = .ok (.iload_n 0, 1) := by decide +kernel
theorem dX12_rank_15 : decode cX12_rank 15 = .ok (.bipush 21, 2) := by decide +kernel
theorem dX12_rank_17 : decode cX12_rank 17 = .ok (.isub, 1) := by decide +kernel
theorem dX12_rank_18 : decode cX12_rank 18 = .ok (.ireturn, 1) := by decide +kernel
noncomputable def FX12_rank (p1 : Int32) : PP Int32 := bd (FX12_isLetter p1) (fun x1 => bd (if ((b2i x1)) = 0 then pu (p1 - (21 : Int32)) else pu (p1 - (96 : Int32)) : PP (Int32)) (fun (v2 : Int32) => pu v2))
set_option maxHeartbeats 4000000 in
set_option maxRecDepth 100000 in
theorem SX12_rank {l : Launch} {K : KK} {n : Nat} {hn : 270 ≤ n} (p1 : Int32) : CT l K n 1 mX12_rank [.int p1] enI (FX12_rank p1) := by
  refine CT.of2 (lv2 := [(0, .int p1)]) (by decide) rfl hn (Nat.le_of_ble_eq_true rfl) rfl (rp_id ?_)
  unfold FX12_rank
  refine rp_iload_n 0 dX12_rank_0 rfl ?_
  refine rp_callSz [.int p1] (SX12_isLetter (hn := hn) p1) csX12_isLetter (mw (i := 1417) (by decide +kernel)) (by omega) rfl rfl (Nat.le_of_ble_eq_true rfl) dX12_rank_1 (fun x1 => ?_)
  refine rp_as ?_
  refine rp_join 18 (fun (v2 : Int32) => []) (fun v2 => [.int v2]) (fun v2 => ?_) (fun hJ18 => ?_)
  · exact rp_pu (rp_iret rfl dX12_rank_18)
  refine rp_if_eq 14 dX12_rank_4 (by decide) ?_ ?_
  · refine rp_iload_n 0 dX12_rank_14 rfl ?_
    refine rp_bipush (21 : Int32) dX12_rank_15 (by decide) ?_
    refine rp_isub dX12_rank_17 ?_
    exact rp_sub [] rfl (rp_pu (hJ18 (p1 - (21 : Int32))))
  · refine rp_iload_n 0 dX12_rank_7 rfl ?_
    refine rp_bipush (96 : Int32) dX12_rank_8 (by decide) ?_
    refine rp_isub dX12_rank_10 ?_
    refine rp_goto 18 dX12_rank_11 (by decide) ?_
    exact rp_sub [] rfl (rp_pu (hJ18 (p1 - (96 : Int32))))

theorem dX12_isSignOf_0 : decode cX12_isSignOf 0 = .ok (.iload_n 0, 1) := by decide +kernel
theorem dX12_isSignOf_1 : decode cX12_isSignOf 1 = .ok (.bipush 40, 2) := by decide +kernel
theorem dX12_isSignOf_3 : decode cX12_isSignOf 3 = .ok (.if_icmp .eq 45, 3) := by decide +kernel
theorem dX12_isSignOf_6 : decode cX12_isSignOf 6 = .ok (.iload_n 0, 1) := by decide +kernel
theorem dX12_isSignOf_7 : decode cX12_isSignOf 7 = .ok (.bipush 41, 2) := by decide +kernel
theorem dX12_isSignOf_9 : decode cX12_isSignOf 9 = .ok (.if_icmp .eq 39, 3) := by decide +kernel
theorem dX12_isSignOf_12 : decode cX12_isSignOf 12 = .ok (.iload_n 0, 1) := by decide +kernel
theorem dX12_isSignOf_13 : decode cX12_isSignOf 13 = .ok (.bipush 59, 2) := by decide +kernel
theorem dX12_isSignOf_15 : decode cX12_isSignOf 15 = .ok (.if_icmp .eq 33, 3) := by decide +kernel
theorem dX12_isSignOf_18 : decode cX12_isSignOf 18 = .ok (.iload_n 0, 1) := by decide +kernel
theorem dX12_isSignOf_19 : decode cX12_isSignOf 19 = .ok (.bipush 61, 2) := by decide +kernel
theorem dX12_isSignOf_21 : decode cX12_isSignOf 21 = .ok (.if_icmp .eq 27, 3) := by decide +kernel
theorem dX12_isSignOf_24 : decode cX12_isSignOf 24 = .ok (.iload_n 0, 1) := by decide +kernel
theorem dX12_isSignOf_25 : decode cX12_isSignOf 25 = .ok (.bipush 60, 2) := by decide +kernel
theorem dX12_isSignOf_27 : decode cX12_isSignOf 27 = .ok (.if_icmp .eq 21, 3) := by decide +kernel
theorem dX12_isSignOf_30 : decode cX12_isSignOf 30 = .ok (.iload_n 0, 1) := by decide +kernel
theorem dX12_isSignOf_31 : decode cX12_isSignOf 31 = .ok (.bipush 43, 2) := by decide +kernel
theorem dX12_isSignOf_33 : decode cX12_isSignOf 33 = .ok (.if_icmp .eq 15, 3) := by decide +kernel
theorem dX12_isSignOf_36 : decode cX12_isSignOf 36 = .ok (.iload_n 0, 1) := by decide +kernel
theorem dX12_isSignOf_37 : decode cX12_isSignOf 37 = .ok (.bipush 45, 2) := by decide +kernel
theorem dX12_isSignOf_39 : decode cX12_isSignOf 39 = .ok (.if_icmp .eq 9, 3) := by decide +kernel
theorem dX12_isSignOf_42 : decode cX12_isSignOf 42 = .ok (.iload_n 0, 1) := by decide +kernel
theorem dX12_isSignOf_43 : decode cX12_isSignOf 43 = .ok (.bipush 42, 2) := by decide +kernel
theorem dX12_isSignOf_45 : decode cX12_isSignOf 45 = .ok (.if_icmp .ne 7, 3) := by decide +kernel
theorem dX12_isSignOf_48 : decode cX12_isSignOf 48 = .ok (.iconst 1, 1) := by decide +kernel
theorem dX12_isSignOf_49 : decode cX12_isSignOf 49 = .ok (.goto 4, 3) := by decide +kernel
theorem dX12_isSignOf_52 : decode cX12_isSignOf 52 = .ok (.iconst 0, 1) := by decide +kernel
theorem dX12_isSignOf_53 : decode cX12_isSignOf 53 = .ok (.ireturn, 1) := by decide +kernel
noncomputable def FX12_isSignOf (p1 : Int32) : PP Bool := bd (if p1 = (40 : Int32) then pu (1 : Int32) else if p1 = (41 : Int32) then pu (1 : Int32) else if p1 = (59 : Int32) then pu (1 : Int32) else if p1 = (61 : Int32) then pu (1 : Int32) else if p1 = (60 : Int32) then pu (1 : Int32) else if p1 = (43 : Int32) then pu (1 : Int32) else if p1 = (45 : Int32) then pu (1 : Int32) else if p1 = (42 : Int32) then pu (1 : Int32) else pu (0 : Int32) : PP (Int32)) (fun (v1 : Int32) => zb v1)
set_option maxHeartbeats 4000000 in
set_option maxRecDepth 100000 in
theorem SX12_isSignOf {l : Launch} {K : KK} {n : Nat} {hn : 270 ≤ n} (p1 : Int32) : CT l K n 0 mX12_isSignOf [.int p1] enZ (FX12_isSignOf p1) := by
  refine CT.of2 (lv2 := [(0, .int p1)]) (by decide) rfl hn (Nat.le_of_ble_eq_true rfl) rfl (rp_id ?_)
  unfold FX12_isSignOf
  refine rp_iload_n 0 dX12_isSignOf_0 rfl ?_
  refine rp_bipush (40 : Int32) dX12_isSignOf_1 (by decide) ?_
  refine rp_as ?_
  refine rp_join 53 (fun (v1 : Int32) => []) (fun v1 => [.int v1]) (fun v1 => ?_) (fun hJ53 => ?_)
  · exact rp_zretb rfl dX12_isSignOf_53
  refine rp_icmp_eq 48 dX12_isSignOf_3 (by decide) ?_ ?_
  · refine rp_iconst (1 : Int32) dX12_isSignOf_48 (by decide) ?_
    refine rp_goto 53 dX12_isSignOf_49 (by decide) ?_
    exact rp_sub [] rfl (rp_pu (hJ53 (1 : Int32)))
  · refine rp_iload_n 0 dX12_isSignOf_6 rfl ?_
    refine rp_bipush (41 : Int32) dX12_isSignOf_7 (by decide) ?_
    refine rp_icmp_eq 48 dX12_isSignOf_9 (by decide) ?_ ?_
    · refine rp_iconst (1 : Int32) dX12_isSignOf_48 (by decide) ?_
      refine rp_goto 53 dX12_isSignOf_49 (by decide) ?_
      exact rp_sub [] rfl (rp_pu (hJ53 (1 : Int32)))
    · refine rp_iload_n 0 dX12_isSignOf_12 rfl ?_
      refine rp_bipush (59 : Int32) dX12_isSignOf_13 (by decide) ?_
      refine rp_icmp_eq 48 dX12_isSignOf_15 (by decide) ?_ ?_
      · refine rp_iconst (1 : Int32) dX12_isSignOf_48 (by decide) ?_
        refine rp_goto 53 dX12_isSignOf_49 (by decide) ?_
        exact rp_sub [] rfl (rp_pu (hJ53 (1 : Int32)))
      · refine rp_iload_n 0 dX12_isSignOf_18 rfl ?_
        refine rp_bipush (61 : Int32) dX12_isSignOf_19 (by decide) ?_
        refine rp_icmp_eq 48 dX12_isSignOf_21 (by decide) ?_ ?_
        · refine rp_iconst (1 : Int32) dX12_isSignOf_48 (by decide) ?_
          refine rp_goto 53 dX12_isSignOf_49 (by decide) ?_
          exact rp_sub [] rfl (rp_pu (hJ53 (1 : Int32)))
        · refine rp_iload_n 0 dX12_isSignOf_24 rfl ?_
          refine rp_bipush (60 : Int32) dX12_isSignOf_25 (by decide) ?_
          refine rp_icmp_eq 48 dX12_isSignOf_27 (by decide) ?_ ?_
          · refine rp_iconst (1 : Int32) dX12_isSignOf_48 (by decide) ?_
            refine rp_goto 53 dX12_isSignOf_49 (by decide) ?_
            exact rp_sub [] rfl (rp_pu (hJ53 (1 : Int32)))
          · refine rp_iload_n 0 dX12_isSignOf_30 rfl ?_
            refine rp_bipush (43 : Int32) dX12_isSignOf_31 (by decide) ?_
            refine rp_icmp_eq 48 dX12_isSignOf_33 (by decide) ?_ ?_
            · refine rp_iconst (1 : Int32) dX12_isSignOf_48 (by decide) ?_
              refine rp_goto 53 dX12_isSignOf_49 (by decide) ?_
              exact rp_sub [] rfl (rp_pu (hJ53 (1 : Int32)))
            · refine rp_iload_n 0 dX12_isSignOf_36 rfl ?_
              refine rp_bipush (45 : Int32) dX12_isSignOf_37 (by decide) ?_
              refine rp_icmp_eq 48 dX12_isSignOf_39 (by decide) ?_ ?_
              · refine rp_iconst (1 : Int32) dX12_isSignOf_48 (by decide) ?_
                refine rp_goto 53 dX12_isSignOf_49 (by decide) ?_
                exact rp_sub [] rfl (rp_pu (hJ53 (1 : Int32)))
              · refine rp_iload_n 0 dX12_isSignOf_42 rfl ?_
                refine rp_bipush (42 : Int32) dX12_isSignOf_43 (by decide) ?_
                refine rp_icmp_ne 52 dX12_isSignOf_45 (by decide) ?_ ?_
                · refine rp_iconst (0 : Int32) dX12_isSignOf_52 (by decide) ?_
                  exact rp_sub [] rfl (rp_pu (hJ53 (0 : Int32)))
                · refine rp_iconst (1 : Int32) dX12_isSignOf_48 (by decide) ?_
                  refine rp_goto 53 dX12_isSignOf_49 (by decide) ?_
                  exact rp_sub [] rfl (rp_pu (hJ53 (1 : Int32)))

theorem dX12_cutAll_0 : decode cX12_cutAll 0 = .ok (.aload_n 0, 1) := by decide +kernel
theorem dX12_cutAll_1 : decode cX12_cutAll 1 = .ok (.aload_n 0, 1) := by decide +kernel
theorem dX12_cutAll_2 : decode cX12_cutAll 2 = .ok (.getfield 11, 3) := by decide +kernel
theorem dX12_cutAll_5 : decode cX12_cutAll 5 = .ok (.putfield 140, 3) := by decide +kernel
theorem dX12_cutAll_8 : decode cX12_cutAll 8 = .ok (.aload_n 0, 1) := by decide +kernel
theorem dX12_cutAll_9 : decode cX12_cutAll 9 = .ok (.iconst 0, 1) := by decide +kernel
theorem dX12_cutAll_10 : decode cX12_cutAll 10 = .ok (.putfield 11, 3) := by decide +kernel
theorem dX12_cutAll_13 : decode cX12_cutAll 13 = .ok (.iconst 0, 1) := by decide +kernel
theorem dX12_cutAll_14 : decode cX12_cutAll 14 = .ok (.istore_n 1, 1) := by decide +kernel
theorem dX12_cutAll_15 : decode cX12_cutAll 15 = .ok (.iconst 0, 1) := by decide +kernel
theorem dX12_cutAll_16 : decode cX12_cutAll 16 = .ok (.istore_n 2, 1) := by decide +kernel
theorem dX12_cutAll_17 : decode cX12_cutAll 17 = .ok (.iload_n 2, 1) := by decide +kernel
theorem dX12_cutAll_18 : decode cX12_cutAll 18 = .ok (.aload_n 0, 1) := by decide +kernel
theorem dX12_cutAll_19 : decode cX12_cutAll 19 = .ok (.getfield 140, 3) := by decide +kernel
theorem dX12_cutAll_22 : decode cX12_cutAll 22 = .ok (.if_icmp .ge 257, 3) := by decide +kernel
theorem dX12_cutAll_25 : decode cX12_cutAll 25 = .ok (.aload_n 0, 1) := by decide +kernel
theorem dX12_cutAll_26 : decode cX12_cutAll 26 = .ok (.getfield 14, 3) := by decide +kernel
theorem dX12_cutAll_29 : decode cX12_cutAll 29 = .ok (.iload_n 2, 1) := by decide +kernel
theorem dX12_cutAll_30 : decode cX12_cutAll 30 = .ok (.iaload, 1) := by decide +kernel
theorem dX12_cutAll_31 : decode cX12_cutAll 31 = .ok (.istore_n 3, 1) := by decide +kernel
theorem dX12_cutAll_32 : decode cX12_cutAll 32 = .ok (.iload_n 3, 1) := by decide +kernel
theorem dX12_cutAll_33 : decode cX12_cutAll 33 = .ok (.bipush 10, 2) := by decide +kernel
theorem dX12_cutAll_35 : decode cX12_cutAll 35 = .ok (.if_icmp .eq 9, 3) := by decide +kernel
theorem dX12_cutAll_38 : decode cX12_cutAll 38 = .ok (.iload_n 3, 1) := by decide +kernel
theorem dX12_cutAll_39 : decode cX12_cutAll 39 = .ok (.bipush 32, 2) := by decide +kernel
theorem dX12_cutAll_41 : decode cX12_cutAll 41 = .ok (.if_icmp .ne 9, 3) := by decide +kernel
theorem dX12_cutAll_44 : decode cX12_cutAll 44 = .ok (.iinc 2 1, 3) := by decide +kernel
theorem dX12_cutAll_47 : decode cX12_cutAll 47 = .ok (.goto (-30), 3) := by decide +kernel
theorem dX12_cutAll_50 : decode cX12_cutAll 50 = .ok (.iload_n 2, 1) := by decide +kernel
theorem dX12_cutAll_51 : decode cX12_cutAll 51 = .ok (.istore 4, 2) := by decide +kernel
theorem dX12_cutAll_53 : decode cX12_cutAll 53 = .ok (.lconst 0, 1) := by decide +kernel
theorem dX12_cutAll_54 : decode cX12_cutAll 54 = .ok (.lstore 5, 2) := by decide +kernel
theorem dX12_cutAll_56 : decode cX12_cutAll 56 = .ok (.aload_n 0, 1) := by decide +kernel
theorem dX12_cutAll_57 : decode cX12_cutAll 57 = .ok (.getfield 27, 3) := by decide +kernel
theorem dX12_cutAll_60 : decode cX12_cutAll 60 = .ok (.iload_n 1, 1) := by decide +kernel
theorem dX12_cutAll_61 : decode cX12_cutAll 61 = .ok (.iload_n 2, 1) := by decide +kernel
theorem dX12_cutAll_62 : decode cX12_cutAll 62 = .ok (.iastore, 1) := by decide +kernel
theorem dX12_cutAll_63 : decode cX12_cutAll 63 = .ok (.iload_n 3, 1) := by decide +kernel
theorem dX12_cutAll_64 : decode cX12_cutAll 64 = .ok (.invokestatic 136, 3) := by decide +kernel
theorem dX12_cutAll_67 : decode cX12_cutAll 67 = .ok (.ifCond .eq 85, 3) := by decide +kernel
theorem dX12_cutAll_70 : decode cX12_cutAll 70 = .ok (.iload_n 2, 1) := by decide +kernel
theorem dX12_cutAll_71 : decode cX12_cutAll 71 = .ok (.aload_n 0, 1) := by decide +kernel
theorem dX12_cutAll_72 : decode cX12_cutAll 72 = .ok (.getfield 140, 3) := by decide +kernel
theorem dX12_cutAll_75 : decode cX12_cutAll 75 = .ok (.if_icmp .ge 54, 3) := by decide +kernel
theorem dX12_cutAll_78 : decode cX12_cutAll 78 = .ok (.aload_n 0, 1) := by decide +kernel
theorem dX12_cutAll_79 : decode cX12_cutAll 79 = .ok (.getfield 14, 3) := by decide +kernel
theorem dX12_cutAll_82 : decode cX12_cutAll 82 = .ok (.iload_n 2, 1) := by decide +kernel
theorem dX12_cutAll_83 : decode cX12_cutAll 83 = .ok (.iaload, 1) := by decide +kernel
theorem dX12_cutAll_84 : decode cX12_cutAll 84 = .ok (.invokestatic 136, 3) := by decide +kernel
theorem dX12_cutAll_87 : decode cX12_cutAll 87 = .ok (.ifCond .eq 42, 3) := by decide +kernel
theorem dX12_cutAll_90 : decode cX12_cutAll 90 = .ok (.iload_n 2, 1) := by decide +kernel
theorem dX12_cutAll_91 : decode cX12_cutAll 91 = .ok (.iload 4, 2) := by decide +kernel
theorem dX12_cutAll_93 : decode cX12_cutAll 93 = .ok (.isub, 1) := by decide +kernel
theorem dX12_cutAll_94 : decode cX12_cutAll 94 = .ok (.bipush 8, 2) := by decide +kernel
theorem dX12_cutAll_96 : decode cX12_cutAll 96 = .ok (.if_icmp .ge 23, 3) := by decide +kernel
theorem dX12_cutAll_99 : decode cX12_cutAll 99 = .ok (.ldc2_w 143, 3) := by decide +kernel
theorem dX12_cutAll_102 : decode cX12_cutAll 102 = .ok (.lload 5, 2) := by decide +kernel
theorem dX12_cutAll_104 : decode cX12_cutAll 104 = .ok (.lmul, 1) := by decide +kernel
theorem dX12_cutAll_105 : decode cX12_cutAll 105 = .ok (.aload_n 0, 1) := by decide +kernel
theorem dX12_cutAll_106 : decode cX12_cutAll 106 = .ok (.getfield 14, 3) := by decide +kernel
theorem dX12_cutAll_109 : decode cX12_cutAll 109 = .ok (.iload_n 2, 1) := by decide +kernel
theorem dX12_cutAll_110 : decode cX12_cutAll 110 = .ok (.iaload, 1) := by decide +kernel
theorem dX12_cutAll_111 : decode cX12_cutAll 111 = .ok (.invokestatic 145, 3) := by decide +kernel
theorem dX12_cutAll_114 : decode cX12_cutAll 114 = .ok (.i2l, 1) := by decide +kernel
theorem dX12_cutAll_115 : decode cX12_cutAll 115 = .ok (.ladd, 1) := by decide +kernel
theorem dX12_cutAll_116 : decode cX12_cutAll 116 = .ok (.goto 5, 3) := by decide +kernel
theorem dX12_cutAll_119 : decode cX12_cutAll 119 = .ok (.lload 5, 2) := by decide +kernel
theorem dX12_cutAll_121 : decode cX12_cutAll 121 = .ok (.lstore 5, 2) := by decide +kernel
theorem dX12_cutAll_123 : decode cX12_cutAll 123 = .ok (.iinc 2 1, 3) := by decide +kernel
theorem dX12_cutAll_126 : decode cX12_cutAll 126 = .ok (.goto (-56), 3) := by decide +kernel
theorem dX12_cutAll_129 : decode cX12_cutAll 129 = .ok (.aload_n 0, 1) := by decide +kernel
theorem dX12_cutAll_130 : decode cX12_cutAll 130 = .ok (.getfield 24, 3) := by decide +kernel
theorem dX12_cutAll_133 : decode cX12_cutAll 133 = .ok (.iload_n 1, 1) := by decide +kernel
theorem dX12_cutAll_134 : decode cX12_cutAll 134 = .ok (.iload_n 2, 1) := by decide +kernel
theorem dX12_cutAll_135 : decode cX12_cutAll 135 = .ok (.iload 4, 2) := by decide +kernel
theorem dX12_cutAll_137 : decode cX12_cutAll 137 = .ok (.isub, 1) := by decide +kernel
theorem dX12_cutAll_138 : decode cX12_cutAll 138 = .ok (.bipush 8, 2) := by decide +kernel
theorem dX12_cutAll_140 : decode cX12_cutAll 140 = .ok (.if_icmp .le 7, 3) := by decide +kernel
theorem dX12_cutAll_143 : decode cX12_cutAll 143 = .ok (.iconst 4, 1) := by decide +kernel
theorem dX12_cutAll_144 : decode cX12_cutAll 144 = .ok (.goto 4, 3) := by decide +kernel
theorem dX12_cutAll_147 : decode cX12_cutAll 147 = .ok (.iconst 1, 1) := by decide +kernel
theorem dX12_cutAll_148 : decode cX12_cutAll 148 = .ok (.iastore, 1) := by decide +kernel
theorem dX12_cutAll_149 : decode cX12_cutAll 149 = .ok (.goto 116, 3) := by decide +kernel
theorem dX12_cutAll_152 : decode cX12_cutAll 152 = .ok (.iload_n 3, 1) := by decide +kernel
theorem dX12_cutAll_153 : decode cX12_cutAll 153 = .ok (.invokestatic 149, 3) := by decide +kernel
theorem dX12_cutAll_156 : decode cX12_cutAll 156 = .ok (.ifCond .eq 84, 3) := by decide +kernel
theorem dX12_cutAll_159 : decode cX12_cutAll 159 = .ok (.iload_n 2, 1) := by decide +kernel
theorem dX12_cutAll_160 : decode cX12_cutAll 160 = .ok (.aload_n 0, 1) := by decide +kernel
theorem dX12_cutAll_161 : decode cX12_cutAll 161 = .ok (.getfield 140, 3) := by decide +kernel
theorem dX12_cutAll_164 : decode cX12_cutAll 164 = .ok (.if_icmp .ge 54, 3) := by decide +kernel
theorem dX12_cutAll_167 : decode cX12_cutAll 167 = .ok (.aload_n 0, 1) := by decide +kernel
theorem dX12_cutAll_168 : decode cX12_cutAll 168 = .ok (.getfield 14, 3) := by decide +kernel
theorem dX12_cutAll_171 : decode cX12_cutAll 171 = .ok (.iload_n 2, 1) := by decide +kernel
theorem dX12_cutAll_172 : decode cX12_cutAll 172 = .ok (.iaload, 1) := by decide +kernel
theorem dX12_cutAll_173 : decode cX12_cutAll 173 = .ok (.invokestatic 149, 3) := by decide +kernel
theorem dX12_cutAll_176 : decode cX12_cutAll 176 = .ok (.ifCond .eq 42, 3) := by decide +kernel
theorem dX12_cutAll_179 : decode cX12_cutAll 179 = .ok (.iload_n 2, 1) := by decide +kernel
theorem dX12_cutAll_180 : decode cX12_cutAll 180 = .ok (.iload 4, 2) := by decide +kernel
theorem dX12_cutAll_182 : decode cX12_cutAll 182 = .ok (.isub, 1) := by decide +kernel
theorem dX12_cutAll_183 : decode cX12_cutAll 183 = .ok (.iconst 4, 1) := by decide +kernel
theorem dX12_cutAll_184 : decode cX12_cutAll 184 = .ok (.if_icmp .ge 24, 3) := by decide +kernel
theorem dX12_cutAll_187 : decode cX12_cutAll 187 = .ok (.ldc2_w 152, 3) := by decide +kernel
theorem dX12_cutAll_190 : decode cX12_cutAll 190 = .ok (.lload 5, 2) := by decide +kernel
theorem dX12_cutAll_192 : decode cX12_cutAll 192 = .ok (.lmul, 1) := by decide +kernel
theorem dX12_cutAll_193 : decode cX12_cutAll 193 = .ok (.aload_n 0, 1) := by decide +kernel
theorem dX12_cutAll_194 : decode cX12_cutAll 194 = .ok (.getfield 14, 3) := by decide +kernel
theorem dX12_cutAll_197 : decode cX12_cutAll 197 = .ok (.iload_n 2, 1) := by decide +kernel
theorem dX12_cutAll_198 : decode cX12_cutAll 198 = .ok (.iaload, 1) := by decide +kernel
theorem dX12_cutAll_199 : decode cX12_cutAll 199 = .ok (.i2l, 1) := by decide +kernel
theorem dX12_cutAll_200 : decode cX12_cutAll 200 = .ok (.ladd, 1) := by decide +kernel
theorem dX12_cutAll_201 : decode cX12_cutAll 201 = .ok (.ldc2_w 154, 3) := by decide +kernel
theorem dX12_cutAll_204 : decode cX12_cutAll 204 = .ok (.lsub, 1) := by decide +kernel
theorem dX12_cutAll_205 : decode cX12_cutAll 205 = .ok (.goto 5, 3) := by decide +kernel
theorem dX12_cutAll_208 : decode cX12_cutAll 208 = .ok (.lload 5, 2) := by decide +kernel
theorem dX12_cutAll_210 : decode cX12_cutAll 210 = .ok (.lstore 5, 2) := by decide +kernel
theorem dX12_cutAll_212 : decode cX12_cutAll 212 = .ok (.iinc 2 1, 3) := by decide +kernel
theorem dX12_cutAll_215 : decode cX12_cutAll 215 = .ok (.goto (-56), 3) := by decide +kernel
theorem dX12_cutAll_218 : decode cX12_cutAll 218 = .ok (.aload_n 0, 1) := by decide +kernel
theorem dX12_cutAll_219 : decode cX12_cutAll 219 = .ok (.getfield 24, 3) := by decide +kernel
theorem dX12_cutAll_222 : decode cX12_cutAll 222 = .ok (.iload_n 1, 1) := by decide +kernel
theorem dX12_cutAll_223 : decode cX12_cutAll 223 = .ok (.iload_n 2, 1) := by decide +kernel
theorem dX12_cutAll_224 : decode cX12_cutAll 224 = .ok (.iload 4, 2) := by decide +kernel
theorem dX12_cutAll_226 : decode cX12_cutAll 226 = .ok (.isub, 1) := by decide +kernel
theorem dX12_cutAll_227 : decode cX12_cutAll 227 = .ok (.iconst 4, 1) := by decide +kernel
theorem dX12_cutAll_228 : decode cX12_cutAll 228 = .ok (.if_icmp .le 7, 3) := by decide +kernel
theorem dX12_cutAll_231 : decode cX12_cutAll 231 = .ok (.iconst 4, 1) := by decide +kernel
theorem dX12_cutAll_232 : decode cX12_cutAll 232 = .ok (.goto 4, 3) := by decide +kernel
theorem dX12_cutAll_235 : decode cX12_cutAll 235 = .ok (.iconst 2, 1) := by decide +kernel
theorem dX12_cutAll_236 : decode cX12_cutAll 236 = .ok (.iastore, 1) := by decide +kernel
theorem dX12_cutAll_237 : decode cX12_cutAll 237 = .ok (.goto 28, 3) := by decide +kernel
theorem dX12_cutAll_240 : decode cX12_cutAll 240 = .ok (.iload_n 3, 1) := by decide +kernel
theorem dX12_cutAll_241 : decode cX12_cutAll 241 = .ok (.i2l, 1) := by decide +kernel
theorem dX12_cutAll_242 : decode cX12_cutAll 242 = .ok (.lstore 5, 2) := by decide +kernel
theorem dX12_cutAll_244 : decode cX12_cutAll 244 = .ok (.aload_n 0, 1) := by decide +kernel
theorem dX12_cutAll_245 : decode cX12_cutAll 245 = .ok (.getfield 24, 3) := by decide +kernel
theorem dX12_cutAll_248 : decode cX12_cutAll 248 = .ok (.iload_n 1, 1) := by decide +kernel
theorem dX12_cutAll_249 : decode cX12_cutAll 249 = .ok (.iload_n 3, 1) := by decide +kernel
theorem dX12_cutAll_250 : decode cX12_cutAll 250 = .ok (.invokestatic 156, 3) := by decide +kernel
theorem dX12_cutAll_253 : decode cX12_cutAll 253 = .ok (.ifCond .eq 7, 3) := by decide +kernel
theorem dX12_cutAll_256 : decode cX12_cutAll 256 = .ok (.iconst 3, 1) := by decide +kernel
theorem dX12_cutAll_257 : decode cX12_cutAll 257 = .ok (.goto 4, 3) := by decide +kernel
theorem dX12_cutAll_260 : decode cX12_cutAll 260 = .ok (.iconst 4, 1) := by decide +kernel
theorem dX12_cutAll_261 : decode cX12_cutAll 261 = .ok (.iastore, 1) := by decide +kernel
theorem dX12_cutAll_262 : decode cX12_cutAll 262 = .ok (.iinc 2 1, 3) := by decide +kernel
theorem dX12_cutAll_265 : decode cX12_cutAll 265 = .ok (.aload_n 0, 1) := by decide +kernel
theorem dX12_cutAll_266 : decode cX12_cutAll 266 = .ok (.getfield 30, 3) := by decide +kernel
theorem dX12_cutAll_269 : decode cX12_cutAll 269 = .ok (.iload_n 1, 1) := by decide +kernel
theorem dX12_cutAll_270 : decode cX12_cutAll 270 = .ok (.lload 5, 2) := by decide +kernel
theorem dX12_cutAll_272 : decode cX12_cutAll 272 = .ok (.lastore, 1) := by decide +kernel
theorem dX12_cutAll_273 : decode cX12_cutAll 273 = .ok (.iinc 1 1, 3) := by decide +kernel
theorem dX12_cutAll_276 : decode cX12_cutAll 276 = .ok (.goto (-259), 3) := by decide +kernel
theorem dX12_cutAll_279 : decode cX12_cutAll 279 = .ok (.aload_n 0, 1) := by decide +kernel
theorem dX12_cutAll_280 : decode cX12_cutAll 280 = .ok (.getfield 24, 3) := by decide +kernel
theorem dX12_cutAll_283 : decode cX12_cutAll 283 = .ok (.iload_n 1, 1) := by decide +kernel
theorem dX12_cutAll_284 : decode cX12_cutAll 284 = .ok (.iconst 0, 1) := by decide +kernel
theorem dX12_cutAll_285 : decode cX12_cutAll 285 = .ok (.iastore, 1) := by decide +kernel
theorem dX12_cutAll_286 : decode cX12_cutAll 286 = .ok (.aload_n 0, 1) := by decide +kernel
theorem dX12_cutAll_287 : decode cX12_cutAll 287 = .ok (.getfield 27, 3) := by decide +kernel
theorem dX12_cutAll_290 : decode cX12_cutAll 290 = .ok (.iload_n 1, 1) := by decide +kernel
theorem dX12_cutAll_291 : decode cX12_cutAll 291 = .ok (.aload_n 0, 1) := by decide +kernel
theorem dX12_cutAll_292 : decode cX12_cutAll 292 = .ok (.getfield 140, 3) := by decide +kernel
theorem dX12_cutAll_295 : decode cX12_cutAll 295 = .ok (.iastore, 1) := by decide +kernel
theorem dX12_cutAll_296 : decode cX12_cutAll 296 = .ok (.aload_n 0, 1) := by decide +kernel
theorem dX12_cutAll_297 : decode cX12_cutAll 297 = .ok (.iconst 0, 1) := by decide +kernel
theorem dX12_cutAll_298 : decode cX12_cutAll 298 = .ok (.putfield 159, 3) := by decide +kernel
theorem dX12_cutAll_301 : decode cX12_cutAll 301 = .ok (.aload_n 0, 1) := by decide +kernel
theorem dX12_cutAll_302 : decode cX12_cutAll 302 = .ok (.iconst 0, 1) := by decide +kernel
theorem dX12_cutAll_303 : decode cX12_cutAll 303 = .ok (.putfield 162, 3) := by decide +kernel
theorem dX12_cutAll_306 : decode cX12_cutAll 306 = .ok (.return_, 1) := by decide +kernel
noncomputable def FX12_cutAll (a0 : Nat) : PP Unit := bd (gI a0 2) (fun x1 => bd (sI a0 3 x1) (fun (_ : Unit) => bd (sI a0 2 (0 : Int32)) (fun (_ : Unit) => bd (it (fun (s2 : Int32 × Int32) => (bd (gI a0 3) (fun x3 => if x3 ≤ s2.2 then pu (Sum.inr s2.1) else bd (aI (rf a0 1) 1000 s2.2) (fun x4 => if x4 = (10 : Int32) then lt (s2.2 + (1 : Int32)) (fun y5 => pu (Sum.inl (s2.1, y5))) else if x4 = (32 : Int32) then lt (s2.2 + (1 : Int32)) (fun y32 => pu (Sum.inl (s2.1, y32))) else bd (uI (rf a0 5) 1002 s2.1 s2.2) (fun (_ : Unit) => bd (FX12_isLetter x4) (fun x6 => bd (if ((b2i x6)) = 0 then bd (FX12_isDigit x4) (fun x7 => if ((b2i x7)) = 0 then bd (FX12_isSignOf x4) (fun x8 => bd (if ((b2i x8)) = 0 then pu (4 : Int32) else pu (3 : Int32) : PP (Int32)) (fun (v9 : Int32) => bd (uI (rf a0 4) 1002 s2.1 v9) (fun (_ : Unit) => lt (s2.2 + (1 : Int32)) (fun y10 => pu (y10, x4.toInt64))))) else bd (it (fun (s11 : Int32 × Int64) => (bd (gI a0 3) (fun x12 => if x12 ≤ s11.1 then pu (Sum.inr (s11.1, s11.2)) else bd (aI (rf a0 1) 1000 s11.1) (fun x13 => bd (FX12_isDigit x13) (fun x14 => if ((b2i x14)) = 0 then pu (Sum.inr (s11.1, s11.2)) else bd (if (4 : Int32) ≤ (s11.1 - s2.2) then pu s11.2 else bd (aI (rf a0 1) 1000 s11.1) (fun x15 => pu ((((10 : Int64) * s11.2) + x15.toInt64) - (48 : Int64))) : PP (Int64)) (fun (v16 : Int64) => lt (s11.1 + (1 : Int32)) (fun y17 => pu (Sum.inl (y17, v16))))))) : PP ((Int32 × Int64) ⊕ (Int32 × Int64)))) FU (s2.2, (0 : Int64))) (fun (v18 : Int32 × Int64) => bd (if (v18.1 - s2.2) ≤ (4 : Int32) then pu (2 : Int32) else pu (4 : Int32) : PP (Int32)) (fun (v19 : Int32) => bd (uI (rf a0 4) 1002 s2.1 v19) (fun (_ : Unit) => pu (v18.1, v18.2))))) else bd (it (fun (s20 : Int32 × Int64) => (bd (gI a0 3) (fun x21 => if x21 ≤ s20.1 then pu (Sum.inr (s20.1, s20.2)) else bd (aI (rf a0 1) 1000 s20.1) (fun x22 => bd (FX12_isLetter x22) (fun x23 => if ((b2i x23)) = 0 then pu (Sum.inr (s20.1, s20.2)) else bd (if (8 : Int32) ≤ (s20.1 - s2.2) then pu s20.2 else bd (aI (rf a0 1) 1000 s20.1) (fun x24 => bd (FX12_rank x24) (fun x25 => pu (((37 : Int64) * s20.2) + x25.toInt64))) : PP (Int64)) (fun (v26 : Int64) => lt (s20.1 + (1 : Int32)) (fun y27 => pu (Sum.inl (y27, v26))))))) : PP ((Int32 × Int64) ⊕ (Int32 × Int64)))) FU (s2.2, (0 : Int64))) (fun (v28 : Int32 × Int64) => bd (if (v28.1 - s2.2) ≤ (8 : Int32) then pu (1 : Int32) else pu (4 : Int32) : PP (Int32)) (fun (v29 : Int32) => bd (uI (rf a0 4) 1002 s2.1 v29) (fun (_ : Unit) => pu (v28.1, v28.2)))) : PP (Int32 × Int64)) (fun (v30 : Int32 × Int64) => bd (uL (rf a0 6) 1002 s2.1 v30.2) (fun (_ : Unit) => lt (s2.1 + (1 : Int32)) (fun y31 => pu (Sum.inl (y31, v30.1))))))))) : PP ((Int32 × Int32) ⊕ (Int32)))) FU ((0 : Int32), (0 : Int32))) (fun (v33 : Int32) => bd (uI (rf a0 4) 1002 v33 (0 : Int32)) (fun (_ : Unit) => bd (gI a0 3) (fun x34 => bd (uI (rf a0 5) 1002 v33 x34) (fun (_ : Unit) => bd (sI a0 7 (0 : Int32)) (fun (_ : Unit) => bd (sI a0 8 (0 : Int32)) (fun (_ : Unit) => pu ())))))))))
set_option maxHeartbeats 4000000 in
set_option maxRecDepth 100000 in
theorem SX12_cutAll {l : Launch} {K : KK} {n : Nat} {hn : 270 ≤ n} (a0 : Nat) (h0 : ob a0 11) : CT l K n 2 mX12_cutAll [.ref (K.2.1 + a0)] enU (FX12_cutAll a0) := by
  refine CT.of2 (lv2 := [(0, .ref (K.2.1 + a0))]) (by decide) rfl hn (Nat.le_of_ble_eq_true rfl) rfl (rp_id ?_)
  unfold FX12_cutAll
  refine rp_aload_n 0 dX12_cutAll_0 rfl ?_
  refine rp_aload_n 0 dX12_cutAll_1 rfl ?_
  refine rp_getI fi_X12_11 h0 rfl dX12_cutAll_2 (fun x1 => ?_)
  refine rp_putI fi_X12_140 fp_X12_3 h0 rfl dX12_cutAll_5 ?_
  refine rp_aload_n 0 dX12_cutAll_8 rfl ?_
  refine rp_iconst (0 : Int32) dX12_cutAll_9 (by decide) ?_
  refine rp_putI fi_X12_11 fp_X12_2 h0 rfl dX12_cutAll_10 ?_
  refine rp_iconst (0 : Int32) dX12_cutAll_13 (by decide) ?_
  refine rp_istore_n [(1, .int (0 : Int32)), (0, .ref (K.2.1 + a0))] dX12_cutAll_14 (by decide) rfl ?_
  refine rp_iconst (0 : Int32) dX12_cutAll_15 (by decide) ?_
  refine rp_istore_n [(2, .int (0 : Int32)), (1, .int (0 : Int32)), (0, .ref (K.2.1 + a0))] dX12_cutAll_16 (by decide) rfl ?_
  refine rp_as ?_
  refine rp_join 279 (fun v33 => [(0, .ref (K.2.1 + a0)), (1, .int v33)]) (fun _ => []) (fun v33 => ?_) (fun hX17_0 => ?_)
  · refine rp_aload_n 0 dX12_cutAll_279 rfl ?_
    refine rp_getR fi_X12_24 h0 rfl dX12_cutAll_280 ?_
    refine rp_iload_n 1 dX12_cutAll_283 rfl ?_
    refine rp_iconst (0 : Int32) dX12_cutAll_284 (by decide) ?_
    refine rp_iast (tX12_4 h0) dX12_cutAll_285 ?_
    refine rp_aload_n 0 dX12_cutAll_286 rfl ?_
    refine rp_getR fi_X12_27 h0 rfl dX12_cutAll_287 ?_
    refine rp_iload_n 1 dX12_cutAll_290 rfl ?_
    refine rp_aload_n 0 dX12_cutAll_291 rfl ?_
    refine rp_getI fi_X12_140 h0 rfl dX12_cutAll_292 (fun x34 => ?_)
    refine rp_iast (tX12_5 h0) dX12_cutAll_295 ?_
    refine rp_aload_n 0 dX12_cutAll_296 rfl ?_
    refine rp_iconst (0 : Int32) dX12_cutAll_297 (by decide) ?_
    refine rp_putI fi_X12_159 fp_X12_7 h0 rfl dX12_cutAll_298 ?_
    refine rp_aload_n 0 dX12_cutAll_301 rfl ?_
    refine rp_iconst (0 : Int32) dX12_cutAll_302 (by decide) ?_
    refine rp_putI fi_X12_162 fp_X12_8 h0 rfl dX12_cutAll_303 ?_
    exact rp_pu (rp_vret rfl dX12_cutAll_306)
  refine rp_sub [2, 1, 0] rfl (rp_it (fun (s2 : Int32 × Int32) => [(0, .ref (K.2.1 + a0)), (1, .int s2.1), (2, .int s2.2)]) (fun N17 ih17 s2 => ?_) FU ((0 : Int32), (0 : Int32)))
  refine rp_iload_n 2 dX12_cutAll_17 rfl ?_
  refine rp_aload_n 0 dX12_cutAll_18 rfl ?_
  refine rp_getI fi_X12_140 h0 rfl dX12_cutAll_19 (fun x3 => ?_)
  refine rp_icmp_ge 279 dX12_cutAll_22 (by decide) ?_ ?_
  · exact rp_sub [0, 1] rfl (rp_puR (hX17_0 s2.1))
  · refine rp_aload_n 0 dX12_cutAll_25 rfl ?_
    refine rp_getR fi_X12_14 h0 rfl dX12_cutAll_26 ?_
    refine rp_iload_n 2 dX12_cutAll_29 rfl ?_
    refine rp_iald (tX12_1 h0) dX12_cutAll_30 (fun x4 => ?_)
    refine rp_istore_n [(3, .int x4), (0, .ref (K.2.1 + a0)), (1, .int s2.1), (2, .int s2.2)] dX12_cutAll_31 (by decide) rfl ?_
    refine rp_iload_n 0 dX12_cutAll_32 rfl ?_
    refine rp_bipush (10 : Int32) dX12_cutAll_33 (by decide) ?_
    refine rp_icmp_eq 44 dX12_cutAll_35 (by decide) ?_ ?_
    · refine rp_iinc (fun y5 => [(2, .int y5), (3, .int x4), (0, .ref (K.2.1 + a0)), (1, .int s2.1)]) 3 dX12_cutAll_44 rfl (by rfl) (by decide) (fun y5 => rfl) (fun y5 => ?_)
      refine rp_goto 17 dX12_cutAll_47 (by decide) ?_
      exact rp_sub [2, 3, 0] rfl (ih17 (s2.1, y5))
    · refine rp_iload_n 0 dX12_cutAll_38 rfl ?_
      refine rp_bipush (32 : Int32) dX12_cutAll_39 (by decide) ?_
      refine rp_icmp_ne 50 dX12_cutAll_41 (by decide) ?_ ?_
      · refine rp_iload_n 3 dX12_cutAll_50 rfl ?_
        refine rp_istore [(4, .int s2.2), (3, .int x4), (0, .ref (K.2.1 + a0)), (1, .int s2.1), (2, .int s2.2)] dX12_cutAll_51 (by decide) rfl ?_
        refine rp_lconst (0 : Int64) dX12_cutAll_53 (by decide) ?_
        refine rp_lstore [(5, .long (0 : Int64)), (4, .int s2.2), (3, .int x4), (0, .ref (K.2.1 + a0)), (1, .int s2.1), (2, .int s2.2)] dX12_cutAll_54 (by decide) rfl ?_
        refine rp_aload_n 3 dX12_cutAll_56 rfl ?_
        refine rp_getR fi_X12_27 h0 rfl dX12_cutAll_57 ?_
        refine rp_iload_n 4 dX12_cutAll_60 rfl ?_
        refine rp_iload_n 5 dX12_cutAll_61 rfl ?_
        refine rp_iast (tX12_5 h0) dX12_cutAll_62 ?_
        refine rp_iload_n 2 dX12_cutAll_63 rfl ?_
        refine rp_callSz [.int x4] (SX12_isLetter (hn := hn) x4) csX12_isLetter (mw (i := 1417) (by decide +kernel)) (by omega) rfl rfl (Nat.le_of_ble_eq_true rfl) dX12_cutAll_64 (fun x6 => ?_)
        refine rp_as ?_
        refine rp_join 265 (fun (v30 : Int32 × Int64) => [(0, .ref (K.2.1 + a0)), (1, .int s2.1), (2, .int v30.1), (5, .long v30.2)]) (fun v30 => []) (fun v30 => ?_) (fun hJ265 => ?_)
        · refine rp_aload_n 0 dX12_cutAll_265 rfl ?_
          refine rp_getR fi_X12_30 h0 rfl dX12_cutAll_266 ?_
          refine rp_iload_n 1 dX12_cutAll_269 rfl ?_
          refine rp_lload 3 dX12_cutAll_270 rfl ?_
          refine rp_last (tX12_6 h0) dX12_cutAll_272 ?_
          refine rp_iinc (fun y31 => [(1, .int y31), (0, .ref (K.2.1 + a0)), (2, .int v30.1), (5, .long v30.2)]) 1 dX12_cutAll_273 rfl (by rfl) (by decide) (fun y31 => rfl) (fun y31 => ?_)
          refine rp_goto 17 dX12_cutAll_276 (by decide) ?_
          exact rp_sub [1, 0, 2] rfl (ih17 (y31, v30.1))
        refine rp_if_eq 152 dX12_cutAll_67 (by decide) ?_ ?_
        · refine rp_iload_n 2 dX12_cutAll_152 rfl ?_
          refine rp_callSz [.int x4] (SX12_isDigit (hn := hn) x4) csX12_isDigit (mw (i := 1424) (by decide +kernel)) (by omega) rfl rfl (Nat.le_of_ble_eq_true rfl) dX12_cutAll_153 (fun x7 => ?_)
          refine rp_if_eq 240 dX12_cutAll_156 (by decide) ?_ ?_
          · refine rp_iload_n 2 dX12_cutAll_240 rfl ?_
            refine rp_i2l dX12_cutAll_241 ?_
            refine rp_lstore [(5, .long x4.toInt64), (4, .int s2.2), (3, .int x4), (0, .ref (K.2.1 + a0)), (1, .int s2.1), (2, .int s2.2)] dX12_cutAll_242 (by decide) rfl ?_
            refine rp_aload_n 3 dX12_cutAll_244 rfl ?_
            refine rp_getR fi_X12_24 h0 rfl dX12_cutAll_245 ?_
            refine rp_iload_n 4 dX12_cutAll_248 rfl ?_
            refine rp_iload_n 2 dX12_cutAll_249 rfl ?_
            refine rp_callSz [.int x4] (SX12_isSignOf (hn := hn) x4) csX12_isSignOf (mw (i := 1429) (by decide +kernel)) (by omega) rfl rfl (Nat.le_of_ble_eq_true rfl) dX12_cutAll_250 (fun x8 => ?_)
            refine rp_as ?_
            refine rp_join 261 (fun (v9 : Int32) => [(0, .ref (K.2.1 + a0)), (1, .int s2.1), (2, .int s2.2), (5, .long x4.toInt64)]) (fun v9 => [.int v9, .int s2.1, .ref (K.2.1 + (rf a0 4))]) (fun v9 => ?_) (fun hJ261 => ?_)
            · refine rp_iast (tX12_4 h0) dX12_cutAll_261 ?_
              refine rp_iinc (fun y10 => [(2, .int y10), (0, .ref (K.2.1 + a0)), (1, .int s2.1), (5, .long x4.toInt64)]) 2 dX12_cutAll_262 rfl (by rfl) (by decide) (fun y10 => rfl) (fun y10 => ?_)
              exact rp_sub [1, 2, 0, 3] rfl (rp_pu (hJ265 (y10, x4.toInt64)))
            refine rp_if_eq 260 dX12_cutAll_253 (by decide) ?_ ?_
            · refine rp_iconst (4 : Int32) dX12_cutAll_260 (by decide) ?_
              exact rp_sub [3, 4, 5, 0] rfl (rp_pu (hJ261 (4 : Int32)))
            · refine rp_iconst (3 : Int32) dX12_cutAll_256 (by decide) ?_
              refine rp_goto 261 dX12_cutAll_257 (by decide) ?_
              exact rp_sub [3, 4, 5, 0] rfl (rp_pu (hJ261 (3 : Int32)))
          · refine rp_as ?_
            refine rp_join 218 (fun v18 => [(0, .ref (K.2.1 + a0)), (1, .int s2.1), (2, .int v18.1), (4, .int s2.2), (5, .long v18.2)]) (fun _ => []) (fun v18 => ?_) (fun hX159_0 => ?_)
            · refine rp_aload_n 0 dX12_cutAll_218 rfl ?_
              refine rp_getR fi_X12_24 h0 rfl dX12_cutAll_219 ?_
              refine rp_iload_n 1 dX12_cutAll_222 rfl ?_
              refine rp_iload_n 2 dX12_cutAll_223 rfl ?_
              refine rp_iload 3 dX12_cutAll_224 rfl ?_
              refine rp_isub dX12_cutAll_226 ?_
              refine rp_iconst (4 : Int32) dX12_cutAll_227 (by decide) ?_
              refine rp_as ?_
              refine rp_join 236 (fun (v19 : Int32) => [(0, .ref (K.2.1 + a0)), (1, .int s2.1), (2, .int v18.1), (5, .long v18.2)]) (fun v19 => [.int v19, .int s2.1, .ref (K.2.1 + (rf a0 4))]) (fun v19 => ?_) (fun hJ236 => ?_)
              · refine rp_iast (tX12_4 h0) dX12_cutAll_236 ?_
                refine rp_goto 265 dX12_cutAll_237 (by decide) ?_
                exact rp_sub [0, 1, 2, 3] rfl (rp_pu (hJ265 (v18.1, v18.2)))
              refine rp_icmp_le 235 dX12_cutAll_228 (by decide) ?_ ?_
              · refine rp_iconst (2 : Int32) dX12_cutAll_235 (by decide) ?_
                exact rp_sub [0, 1, 2, 4] rfl (rp_pu (hJ236 (2 : Int32)))
              · refine rp_iconst (4 : Int32) dX12_cutAll_231 (by decide) ?_
                refine rp_goto 236 dX12_cutAll_232 (by decide) ?_
                exact rp_sub [0, 1, 2, 4] rfl (rp_pu (hJ236 (4 : Int32)))
            refine rp_sub [3, 4, 5, 1, 0] rfl (rp_it (fun (s11 : Int32 × Int64) => [(0, .ref (K.2.1 + a0)), (1, .int s2.1), (2, .int s11.1), (4, .int s2.2), (5, .long s11.2)]) (fun N159 ih159 s11 => ?_) FU (s2.2, (0 : Int64)))
            refine rp_iload_n 2 dX12_cutAll_159 rfl ?_
            refine rp_aload_n 0 dX12_cutAll_160 rfl ?_
            refine rp_getI fi_X12_140 h0 rfl dX12_cutAll_161 (fun x12 => ?_)
            refine rp_icmp_ge 218 dX12_cutAll_164 (by decide) ?_ ?_
            · exact rp_sub [0, 1, 2, 3, 4] rfl (rp_puR (hX159_0 (s11.1, s11.2)))
            · refine rp_aload_n 0 dX12_cutAll_167 rfl ?_
              refine rp_getR fi_X12_14 h0 rfl dX12_cutAll_168 ?_
              refine rp_iload_n 2 dX12_cutAll_171 rfl ?_
              refine rp_iald (tX12_1 h0) dX12_cutAll_172 (fun x13 => ?_)
              refine rp_callSz [.int x13] (SX12_isDigit (hn := hn) x13) csX12_isDigit (mw (i := 1424) (by decide +kernel)) (by omega) rfl rfl (Nat.le_of_ble_eq_true rfl) dX12_cutAll_173 (fun x14 => ?_)
              refine rp_if_eq 218 dX12_cutAll_176 (by decide) ?_ ?_
              · exact rp_sub [0, 1, 2, 3, 4] rfl (rp_puR (hX159_0 (s11.1, s11.2)))
              · refine rp_iload_n 2 dX12_cutAll_179 rfl ?_
                refine rp_iload 3 dX12_cutAll_180 rfl ?_
                refine rp_isub dX12_cutAll_182 ?_
                refine rp_iconst (4 : Int32) dX12_cutAll_183 (by decide) ?_
                refine rp_as ?_
                refine rp_join 210 (fun (v16 : Int64) => [(0, .ref (K.2.1 + a0)), (1, .int s2.1), (2, .int s11.1), (4, .int s2.2)]) (fun v16 => [.long v16]) (fun v16 => ?_) (fun hJ210 => ?_)
                · refine rp_lstore [(5, .long v16), (0, .ref (K.2.1 + a0)), (1, .int s2.1), (2, .int s11.1), (4, .int s2.2)] dX12_cutAll_210 (by decide) rfl ?_
                  refine rp_iinc (fun y17 => [(2, .int y17), (5, .long v16), (0, .ref (K.2.1 + a0)), (1, .int s2.1), (4, .int s2.2)]) 3 dX12_cutAll_212 rfl (by rfl) (by decide) (fun y17 => rfl) (fun y17 => ?_)
                  refine rp_goto 159 dX12_cutAll_215 (by decide) ?_
                  exact rp_sub [2, 3, 0, 4, 1] rfl (ih159 (y17, v16))
                refine rp_icmp_ge 208 dX12_cutAll_184 (by decide) ?_ ?_
                · refine rp_lload 4 dX12_cutAll_208 rfl ?_
                  exact rp_sub [0, 1, 2, 3] rfl (rp_pu (hJ210 s11.2))
                · refine rp_ldc2 (v := 10) (mw (i := 1427) (by decide +kernel)) dX12_cutAll_187 ?_
                  refine rp_lload 4 dX12_cutAll_190 rfl ?_
                  refine rp_lmul dX12_cutAll_192 ?_
                  refine rp_aload_n 0 dX12_cutAll_193 rfl ?_
                  refine rp_getR fi_X12_14 h0 rfl dX12_cutAll_194 ?_
                  refine rp_iload_n 2 dX12_cutAll_197 rfl ?_
                  refine rp_iald (tX12_1 h0) dX12_cutAll_198 (fun x15 => ?_)
                  refine rp_i2l dX12_cutAll_199 ?_
                  refine rp_ladd dX12_cutAll_200 ?_
                  refine rp_ldc2 (v := 48) (mw (i := 1428) (by decide +kernel)) dX12_cutAll_201 ?_
                  refine rp_lsub dX12_cutAll_204 ?_
                  refine rp_goto 210 dX12_cutAll_205 (by decide) ?_
                  exact rp_sub [0, 1, 2, 3] rfl (rp_pu (hJ210 ((((10 : Int64) * s11.2) + x15.toInt64) - (48 : Int64))))
        · refine rp_as ?_
          refine rp_join 129 (fun v28 => [(0, .ref (K.2.1 + a0)), (1, .int s2.1), (2, .int v28.1), (4, .int s2.2), (5, .long v28.2)]) (fun _ => []) (fun v28 => ?_) (fun hX70_0 => ?_)
          · refine rp_aload_n 0 dX12_cutAll_129 rfl ?_
            refine rp_getR fi_X12_24 h0 rfl dX12_cutAll_130 ?_
            refine rp_iload_n 1 dX12_cutAll_133 rfl ?_
            refine rp_iload_n 2 dX12_cutAll_134 rfl ?_
            refine rp_iload 3 dX12_cutAll_135 rfl ?_
            refine rp_isub dX12_cutAll_137 ?_
            refine rp_bipush (8 : Int32) dX12_cutAll_138 (by decide) ?_
            refine rp_as ?_
            refine rp_join 148 (fun (v29 : Int32) => [(0, .ref (K.2.1 + a0)), (1, .int s2.1), (2, .int v28.1), (5, .long v28.2)]) (fun v29 => [.int v29, .int s2.1, .ref (K.2.1 + (rf a0 4))]) (fun v29 => ?_) (fun hJ148 => ?_)
            · refine rp_iast (tX12_4 h0) dX12_cutAll_148 ?_
              refine rp_goto 265 dX12_cutAll_149 (by decide) ?_
              exact rp_sub [0, 1, 2, 3] rfl (rp_pu (hJ265 (v28.1, v28.2)))
            refine rp_icmp_le 147 dX12_cutAll_140 (by decide) ?_ ?_
            · refine rp_iconst (1 : Int32) dX12_cutAll_147 (by decide) ?_
              exact rp_sub [0, 1, 2, 4] rfl (rp_pu (hJ148 (1 : Int32)))
            · refine rp_iconst (4 : Int32) dX12_cutAll_143 (by decide) ?_
              refine rp_goto 148 dX12_cutAll_144 (by decide) ?_
              exact rp_sub [0, 1, 2, 4] rfl (rp_pu (hJ148 (4 : Int32)))
          refine rp_sub [3, 4, 5, 1, 0] rfl (rp_it (fun (s20 : Int32 × Int64) => [(0, .ref (K.2.1 + a0)), (1, .int s2.1), (2, .int s20.1), (4, .int s2.2), (5, .long s20.2)]) (fun N70 ih70 s20 => ?_) FU (s2.2, (0 : Int64)))
          refine rp_iload_n 2 dX12_cutAll_70 rfl ?_
          refine rp_aload_n 0 dX12_cutAll_71 rfl ?_
          refine rp_getI fi_X12_140 h0 rfl dX12_cutAll_72 (fun x21 => ?_)
          refine rp_icmp_ge 129 dX12_cutAll_75 (by decide) ?_ ?_
          · exact rp_sub [0, 1, 2, 3, 4] rfl (rp_puR (hX70_0 (s20.1, s20.2)))
          · refine rp_aload_n 0 dX12_cutAll_78 rfl ?_
            refine rp_getR fi_X12_14 h0 rfl dX12_cutAll_79 ?_
            refine rp_iload_n 2 dX12_cutAll_82 rfl ?_
            refine rp_iald (tX12_1 h0) dX12_cutAll_83 (fun x22 => ?_)
            refine rp_callSz [.int x22] (SX12_isLetter (hn := hn) x22) csX12_isLetter (mw (i := 1417) (by decide +kernel)) (by omega) rfl rfl (Nat.le_of_ble_eq_true rfl) dX12_cutAll_84 (fun x23 => ?_)
            refine rp_if_eq 129 dX12_cutAll_87 (by decide) ?_ ?_
            · exact rp_sub [0, 1, 2, 3, 4] rfl (rp_puR (hX70_0 (s20.1, s20.2)))
            · refine rp_iload_n 2 dX12_cutAll_90 rfl ?_
              refine rp_iload 3 dX12_cutAll_91 rfl ?_
              refine rp_isub dX12_cutAll_93 ?_
              refine rp_bipush (8 : Int32) dX12_cutAll_94 (by decide) ?_
              refine rp_as ?_
              refine rp_join 121 (fun (v26 : Int64) => [(0, .ref (K.2.1 + a0)), (1, .int s2.1), (2, .int s20.1), (4, .int s2.2)]) (fun v26 => [.long v26]) (fun v26 => ?_) (fun hJ121 => ?_)
              · refine rp_lstore [(5, .long v26), (0, .ref (K.2.1 + a0)), (1, .int s2.1), (2, .int s20.1), (4, .int s2.2)] dX12_cutAll_121 (by decide) rfl ?_
                refine rp_iinc (fun y27 => [(2, .int y27), (5, .long v26), (0, .ref (K.2.1 + a0)), (1, .int s2.1), (4, .int s2.2)]) 3 dX12_cutAll_123 rfl (by rfl) (by decide) (fun y27 => rfl) (fun y27 => ?_)
                refine rp_goto 70 dX12_cutAll_126 (by decide) ?_
                exact rp_sub [2, 3, 0, 4, 1] rfl (ih70 (y27, v26))
              refine rp_icmp_ge 119 dX12_cutAll_96 (by decide) ?_ ?_
              · refine rp_lload 4 dX12_cutAll_119 rfl ?_
                exact rp_sub [0, 1, 2, 3] rfl (rp_pu (hJ121 s20.2))
              · refine rp_ldc2 (v := 37) (mw (i := 1420) (by decide +kernel)) dX12_cutAll_99 ?_
                refine rp_lload 4 dX12_cutAll_102 rfl ?_
                refine rp_lmul dX12_cutAll_104 ?_
                refine rp_aload_n 0 dX12_cutAll_105 rfl ?_
                refine rp_getR fi_X12_14 h0 rfl dX12_cutAll_106 ?_
                refine rp_iload_n 2 dX12_cutAll_109 rfl ?_
                refine rp_iald (tX12_1 h0) dX12_cutAll_110 (fun x24 => ?_)
                refine rp_callSi [.int x24] (SX12_rank (hn := hn) x24) csX12_rank (mw (i := 1421) (by decide +kernel)) (by omega) rfl rfl (Nat.le_of_ble_eq_true rfl) dX12_cutAll_111 (fun x25 => ?_)
                refine rp_i2l dX12_cutAll_114 ?_
                refine rp_ladd dX12_cutAll_115 ?_
                refine rp_goto 121 dX12_cutAll_116 (by decide) ?_
                exact rp_sub [0, 1, 2, 3] rfl (rp_pu (hJ121 (((37 : Int64) * s20.2) + x25.toInt64)))
      · refine rp_iinc (fun y32 => [(2, .int y32), (3, .int x4), (0, .ref (K.2.1 + a0)), (1, .int s2.1)]) 3 dX12_cutAll_44 rfl (by rfl) (by decide) (fun y32 => rfl) (fun y32 => ?_)
        refine rp_goto 17 dX12_cutAll_47 (by decide) ?_
        exact rp_sub [2, 3, 0] rfl (ih17 (s2.1, y32))

theorem dX12_wrong_0 : decode cX12_wrong 0 = .ok (.aload_n 0, 1) := by decide +kernel
theorem dX12_wrong_1 : decode cX12_wrong 1 = .ok (.getfield 162, 3) := by decide +kernel
theorem dX12_wrong_4 : decode cX12_wrong 4 = .ok (.ifCond .ne 21, 3) := by decide +kernel
theorem dX12_wrong_7 : decode cX12_wrong 7 = .ok (.aload_n 0, 1) := by decide +kernel
theorem dX12_wrong_8 : decode cX12_wrong 8 = .ok (.iload_n 1, 1) := by decide +kernel
theorem dX12_wrong_9 : decode cX12_wrong 9 = .ok (.bipush 16, 2) := by decide +kernel
theorem dX12_wrong_11 : decode cX12_wrong 11 = .ok (.aload_n 0, 1) := by decide +kernel
theorem dX12_wrong_12 : decode cX12_wrong 12 = .ok (.getfield 27, 3) := by decide +kernel
theorem dX12_wrong_15 : decode cX12_wrong 15 = .ok (.aload_n 0, 1) := by decide +kernel
theorem dX12_wrong_16 : decode cX12_wrong 16 = .ok (.getfield 159, 3) := by decide +kernel
theorem dX12_wrong_19 : decode cX12_wrong 19 = .ok (.iaload, 1) := by decide +kernel
theorem dX12_wrong_20 : decode cX12_wrong 20 = .ok (.imul, 1) := by decide +kernel
theorem dX12_wrong_21 : decode cX12_wrong 21 = .ok (.iadd, 1) := by decide +kernel
theorem dX12_wrong_22 : decode cX12_wrong 22 = .ok (.putfield 162, 3) := by decide +kernel
theorem dX12_wrong_25 : decode cX12_wrong 25 = .ok (.return_, 1) := by decide +kernel
noncomputable def FX12_wrong (a0 : Nat) (p1 : Int32) : PP Unit := bd (gI a0 8) (fun x1 => bd (if x1 = 0 then bd (gI a0 7) (fun x2 => bd (aI (rf a0 5) 1002 x2) (fun x3 => bd (sI a0 8 (p1 + ((16 : Int32) * x3))) (fun (_ : Unit) => pu ()))) else pu () : PP (Unit)) (fun (v4 : Unit) => pu ()))
set_option maxHeartbeats 4000000 in
set_option maxRecDepth 100000 in
theorem SX12_wrong {l : Launch} {K : KK} {n : Nat} {hn : 270 ≤ n} (a0 : Nat) (p1 : Int32) (h0 : ob a0 11) : CT l K n 0 mX12_wrong [.ref (K.2.1 + a0), .int p1] enU (FX12_wrong a0 p1) := by
  refine CT.of2 (lv2 := [(0, .ref (K.2.1 + a0)), (1, .int p1)]) (by decide) rfl hn (Nat.le_of_ble_eq_true rfl) rfl (rp_id ?_)
  unfold FX12_wrong
  refine rp_aload_n 0 dX12_wrong_0 rfl ?_
  refine rp_getI fi_X12_162 h0 rfl dX12_wrong_1 (fun x1 => ?_)
  refine rp_as ?_
  refine rp_join 25 (fun (v4 : Unit) => []) (fun v4 => []) (fun v4 => ?_) (fun hJ25 => ?_)
  · exact rp_pu (rp_vret rfl dX12_wrong_25)
  refine rp_if_ne 25 dX12_wrong_4 (by decide) ?_ ?_
  · exact rp_sub [] rfl (rp_pu (hJ25 ()))
  · refine rp_aload_n 0 dX12_wrong_7 rfl ?_
    refine rp_iload_n 1 dX12_wrong_8 rfl ?_
    refine rp_bipush (16 : Int32) dX12_wrong_9 (by decide) ?_
    refine rp_aload_n 0 dX12_wrong_11 rfl ?_
    refine rp_getR fi_X12_27 h0 rfl dX12_wrong_12 ?_
    refine rp_aload_n 0 dX12_wrong_15 rfl ?_
    refine rp_getI fi_X12_159 h0 rfl dX12_wrong_16 (fun x2 => ?_)
    refine rp_iald (tX12_5 h0) dX12_wrong_19 (fun x3 => ?_)
    refine rp_imul dX12_wrong_20 ?_
    refine rp_iadd dX12_wrong_21 ?_
    refine rp_putI fi_X12_162 fp_X12_8 h0 rfl dX12_wrong_22 ?_
    exact rp_sub [] rfl (rp_pu (hJ25 ()))

theorem dX12_isSign_0 : decode cX12_isSign 0 = .ok (.aload_n 0, 1) := by decide +kernel
theorem dX12_isSign_1 : decode cX12_isSign 1 = .ok (.getfield 162, 3) := by decide +kernel
theorem dX12_isSign_4 : decode cX12_isSign 4 = .ok (.ifCond .ne 35, 3) := by decide +kernel
theorem dX12_isSign_7 : decode cX12_isSign 7 = .ok (.aload_n 0, 1) := by decide +kernel
theorem dX12_isSign_8 : decode cX12_isSign 8 = .ok (.getfield 24, 3) := by decide +kernel
theorem dX12_isSign_11 : decode cX12_isSign 11 = .ok (.aload_n 0, 1) := by decide +kernel
theorem dX12_isSign_12 : decode cX12_isSign 12 = .ok (.getfield 159, 3) := by decide +kernel
theorem dX12_isSign_15 : decode cX12_isSign 15 = .ok (.iaload, 1) := by decide +kernel
theorem dX12_isSign_16 : decode cX12_isSign 16 = .ok (.iconst 3, 1) := by decide +kernel
theorem dX12_isSign_17 : decode cX12_isSign 17 = .ok (.if_icmp .ne 22, 3) := by decide +kernel
theorem dX12_isSign_20 : decode cX12_isSign 20 = .ok (.aload_n 0, 1) := by decide +kernel
theorem dX12_isSign_21 : decode cX12_isSign 21 = .ok (.getfield 30, 3) := by decide +kernel
theorem dX12_isSign_24 : decode cX12_isSign 24 = .ok (.aload_n 0, 1) := by decide +kernel
theorem dX12_isSign_25 : decode cX12_isSign 25 = .ok (.getfield 159, 3) := by decide +kernel
theorem dX12_isSign_28 : decode cX12_isSign 28 = .ok (.laload, 1) := by decide +kernel
theorem dX12_isSign_29 : decode cX12_isSign 29 = .ok (.iload_n 1, 1) := by decide +kernel
theorem dX12_isSign_30 : decode cX12_isSign 30 = .ok (.i2l, 1) := by decide +kernel
theorem dX12_isSign_31 : decode cX12_isSign 31 = .ok (.lcmp, 1) := by decide +kernel
theorem dX12_isSign_32 : decode cX12_isSign 32 = .ok (.ifCond .ne 7, 3) := by decide +kernel
theorem dX12_isSign_35 : decode cX12_isSign 35 = .ok (.iconst 1, 1) := by decide +kernel
theorem dX12_isSign_36 : decode cX12_isSign 36 = .ok (.goto 4, 3) := by decide +kernel
theorem dX12_isSign_39 : decode cX12_isSign 39 = .ok (.iconst 0, 1) := by decide +kernel
theorem dX12_isSign_40 : decode cX12_isSign 40 = .ok (.ireturn, 1) := by decide +kernel
noncomputable def FX12_isSign (a0 : Nat) (p1 : Int32) : PP Bool := bd (gI a0 8) (fun x1 => bd (if x1 = 0 then bd (gI a0 7) (fun x2 => bd (aI (rf a0 4) 1002 x2) (fun x3 => if x3 = (3 : Int32) then bd (gI a0 7) (fun x4 => bd (aL (rf a0 6) 1002 x4) (fun x5 => if (lg_cmp x5 p1.toInt64) = 0 then pu (1 : Int32) else pu (0 : Int32))) else pu (0 : Int32))) else pu (0 : Int32) : PP (Int32)) (fun (v6 : Int32) => zb v6))
set_option maxHeartbeats 4000000 in
set_option maxRecDepth 100000 in
theorem SX12_isSign {l : Launch} {K : KK} {n : Nat} {hn : 270 ≤ n} (a0 : Nat) (p1 : Int32) (h0 : ob a0 11) : CT l K n 0 mX12_isSign [.ref (K.2.1 + a0), .int p1] enZ (FX12_isSign a0 p1) := by
  refine CT.of2 (lv2 := [(0, .ref (K.2.1 + a0)), (1, .int p1)]) (by decide) rfl hn (Nat.le_of_ble_eq_true rfl) rfl (rp_id ?_)
  unfold FX12_isSign
  refine rp_aload_n 0 dX12_isSign_0 rfl ?_
  refine rp_getI fi_X12_162 h0 rfl dX12_isSign_1 (fun x1 => ?_)
  refine rp_as ?_
  refine rp_join 40 (fun (v6 : Int32) => []) (fun v6 => [.int v6]) (fun v6 => ?_) (fun hJ40 => ?_)
  · exact rp_zretb rfl dX12_isSign_40
  refine rp_if_ne 39 dX12_isSign_4 (by decide) ?_ ?_
  · refine rp_iconst (0 : Int32) dX12_isSign_39 (by decide) ?_
    exact rp_sub [] rfl (rp_pu (hJ40 (0 : Int32)))
  · refine rp_aload_n 0 dX12_isSign_7 rfl ?_
    refine rp_getR fi_X12_24 h0 rfl dX12_isSign_8 ?_
    refine rp_aload_n 0 dX12_isSign_11 rfl ?_
    refine rp_getI fi_X12_159 h0 rfl dX12_isSign_12 (fun x2 => ?_)
    refine rp_iald (tX12_4 h0) dX12_isSign_15 (fun x3 => ?_)
    refine rp_iconst (3 : Int32) dX12_isSign_16 (by decide) ?_
    refine rp_icmp_ne 39 dX12_isSign_17 (by decide) ?_ ?_
    · refine rp_iconst (0 : Int32) dX12_isSign_39 (by decide) ?_
      exact rp_sub [] rfl (rp_pu (hJ40 (0 : Int32)))
    · refine rp_aload_n 0 dX12_isSign_20 rfl ?_
      refine rp_getR fi_X12_30 h0 rfl dX12_isSign_21 ?_
      refine rp_aload_n 0 dX12_isSign_24 rfl ?_
      refine rp_getI fi_X12_159 h0 rfl dX12_isSign_25 (fun x4 => ?_)
      refine rp_lald (tX12_6 h0) dX12_isSign_28 (fun x5 => ?_)
      refine rp_iload_n 1 dX12_isSign_29 rfl ?_
      refine rp_i2l dX12_isSign_30 ?_
      refine rp_lcmp dX12_isSign_31 ?_
      refine rp_if_ne 39 dX12_isSign_32 (by decide) ?_ ?_
      · refine rp_iconst (0 : Int32) dX12_isSign_39 (by decide) ?_
        exact rp_sub [] rfl (rp_pu (hJ40 (0 : Int32)))
      · refine rp_iconst (1 : Int32) dX12_isSign_35 (by decide) ?_
        refine rp_goto 40 dX12_isSign_36 (by decide) ?_
        exact rp_sub [] rfl (rp_pu (hJ40 (1 : Int32)))

theorem dX12_isWord_0 : decode cX12_isWord 0 = .ok (.aload_n 0, 1) := by decide +kernel
theorem dX12_isWord_1 : decode cX12_isWord 1 = .ok (.getfield 162, 3) := by decide +kernel
theorem dX12_isWord_4 : decode cX12_isWord 4 = .ok (.ifCond .ne 39, 3) := by decide +kernel
theorem dX12_isWord_7 : decode cX12_isWord 7 = .ok (.aload_n 0, 1) := by decide +kernel
theorem dX12_isWord_8 : decode cX12_isWord 8 = .ok (.getfield 24, 3) := by decide +kernel
theorem dX12_isWord_11 : decode cX12_isWord 11 = .ok (.aload_n 0, 1) := by decide +kernel
theorem dX12_isWord_12 : decode cX12_isWord 12 = .ok (.getfield 159, 3) := by decide +kernel
theorem dX12_isWord_15 : decode cX12_isWord 15 = .ok (.iaload, 1) := by decide +kernel
theorem dX12_isWord_16 : decode cX12_isWord 16 = .ok (.iconst 1, 1) := by decide +kernel
theorem dX12_isWord_17 : decode cX12_isWord 17 = .ok (.if_icmp .ne 26, 3) := by decide +kernel
theorem dX12_isWord_20 : decode cX12_isWord 20 = .ok (.aload_n 0, 1) := by decide +kernel
theorem dX12_isWord_21 : decode cX12_isWord 21 = .ok (.getfield 30, 3) := by decide +kernel
theorem dX12_isWord_24 : decode cX12_isWord 24 = .ok (.aload_n 0, 1) := by decide +kernel
theorem dX12_isWord_25 : decode cX12_isWord 25 = .ok (.getfield 159, 3) := by decide +kernel
theorem dX12_isWord_28 : decode cX12_isWord 28 = .ok (.laload, 1) := by decide +kernel
theorem dX12_isWord_29 : decode cX12_isWord 29 = .ok (.aload_n 0, 1) := by decide +kernel
theorem dX12_isWord_30 : decode cX12_isWord 30 = .ok (.getfield 80, 3) := by decide +kernel
theorem dX12_isWord_33 : decode cX12_isWord 33 = .ok (.iload_n 1, 1) := by decide +kernel
theorem dX12_isWord_34 : decode cX12_isWord 34 = .ok (.laload, 1) := by decide +kernel
theorem dX12_isWord_35 : decode cX12_isWord 35 = .ok (.lcmp, 1) := by decide +kernel
theorem dX12_isWord_36 : decode cX12_isWord 36 = .ok (.ifCond .ne 7, 3) := by decide +kernel
theorem dX12_isWord_39 : decode cX12_isWord 39 = .ok (.iconst 1, 1) := by decide +kernel
theorem dX12_isWord_40 : decode cX12_isWord 40 = .ok (.goto 4, 3) := by decide +kernel
theorem dX12_isWord_43 : decode cX12_isWord 43 = .ok (.iconst 0, 1) := by decide +kernel
theorem dX12_isWord_44 : decode cX12_isWord 44 = .ok (.ireturn, 1) := by decide +kernel
noncomputable def FX12_isWord (a0 : Nat) (p1 : Int32) : PP Bool := bd (gI a0 8) (fun x1 => bd (if x1 = 0 then bd (gI a0 7) (fun x2 => bd (aI (rf a0 4) 1002 x2) (fun x3 => if x3 = (1 : Int32) then bd (gI a0 7) (fun x4 => bd (aL (rf a0 6) 1002 x4) (fun x5 => bd (aL (rf a0 9) 23 p1) (fun x6 => if (lg_cmp x5 x6) = 0 then pu (1 : Int32) else pu (0 : Int32)))) else pu (0 : Int32))) else pu (0 : Int32) : PP (Int32)) (fun (v7 : Int32) => zb v7))
set_option maxHeartbeats 4000000 in
set_option maxRecDepth 100000 in
theorem SX12_isWord {l : Launch} {K : KK} {n : Nat} {hn : 270 ≤ n} (a0 : Nat) (p1 : Int32) (h0 : ob a0 11) : CT l K n 0 mX12_isWord [.ref (K.2.1 + a0), .int p1] enZ (FX12_isWord a0 p1) := by
  refine CT.of2 (lv2 := [(0, .ref (K.2.1 + a0)), (1, .int p1)]) (by decide) rfl hn (Nat.le_of_ble_eq_true rfl) rfl (rp_id ?_)
  unfold FX12_isWord
  refine rp_aload_n 0 dX12_isWord_0 rfl ?_
  refine rp_getI fi_X12_162 h0 rfl dX12_isWord_1 (fun x1 => ?_)
  refine rp_as ?_
  refine rp_join 44 (fun (v7 : Int32) => []) (fun v7 => [.int v7]) (fun v7 => ?_) (fun hJ44 => ?_)
  · exact rp_zretb rfl dX12_isWord_44
  refine rp_if_ne 43 dX12_isWord_4 (by decide) ?_ ?_
  · refine rp_iconst (0 : Int32) dX12_isWord_43 (by decide) ?_
    exact rp_sub [] rfl (rp_pu (hJ44 (0 : Int32)))
  · refine rp_aload_n 0 dX12_isWord_7 rfl ?_
    refine rp_getR fi_X12_24 h0 rfl dX12_isWord_8 ?_
    refine rp_aload_n 0 dX12_isWord_11 rfl ?_
    refine rp_getI fi_X12_159 h0 rfl dX12_isWord_12 (fun x2 => ?_)
    refine rp_iald (tX12_4 h0) dX12_isWord_15 (fun x3 => ?_)
    refine rp_iconst (1 : Int32) dX12_isWord_16 (by decide) ?_
    refine rp_icmp_ne 43 dX12_isWord_17 (by decide) ?_ ?_
    · refine rp_iconst (0 : Int32) dX12_isWord_43 (by decide) ?_
      exact rp_sub [] rfl (rp_pu (hJ44 (0 : Int32)))
    · refine rp_aload_n 0 dX12_isWord_20 rfl ?_
      refine rp_getR fi_X12_30 h0 rfl dX12_isWord_21 ?_
      refine rp_aload_n 0 dX12_isWord_24 rfl ?_
      refine rp_getI fi_X12_159 h0 rfl dX12_isWord_25 (fun x4 => ?_)
      refine rp_lald (tX12_6 h0) dX12_isWord_28 (fun x5 => ?_)
      refine rp_aload_n 0 dX12_isWord_29 rfl ?_
      refine rp_getR fi_X12_80 h0 rfl dX12_isWord_30 ?_
      refine rp_iload_n 1 dX12_isWord_33 rfl ?_
      refine rp_lald (tX12_9 h0) dX12_isWord_34 (fun x6 => ?_)
      refine rp_lcmp dX12_isWord_35 ?_
      refine rp_if_ne 43 dX12_isWord_36 (by decide) ?_ ?_
      · refine rp_iconst (0 : Int32) dX12_isWord_43 (by decide) ?_
        exact rp_sub [] rfl (rp_pu (hJ44 (0 : Int32)))
      · refine rp_iconst (1 : Int32) dX12_isWord_39 (by decide) ?_
        refine rp_goto 44 dX12_isWord_40 (by decide) ?_
        exact rp_sub [] rfl (rp_pu (hJ44 (1 : Int32)))

theorem dX12_takeSign_0 : decode cX12_takeSign 0 = .ok (.aload_n 0, 1) := by decide +kernel
theorem dX12_takeSign_1 : decode cX12_takeSign 1 = .ok (.iload_n 1, 1) := by decide +kernel
theorem dX12_takeSign_2 : decode cX12_takeSign 2 = .ok (.invokevirtual 165, 3) := by decide +kernel
theorem dX12_takeSign_5 : decode cX12_takeSign 5 = .ok (.ifCond .eq 16, 3) := by decide +kernel
theorem dX12_takeSign_8 : decode cX12_takeSign 8 = .ok (.aload_n 0, 1) := by decide +kernel
theorem dX12_takeSign_9 : decode cX12_takeSign 9 = .ok (.dup, 1) := by decide +kernel
theorem dX12_takeSign_10 : decode cX12_takeSign 10 = .ok (.getfield 159, 3) := by decide +kernel
theorem dX12_takeSign_13 : decode cX12_takeSign 13 = .ok (.iconst 1, 1) := by decide +kernel
theorem dX12_takeSign_14 : decode cX12_takeSign 14 = .ok (.iadd, 1) := by decide +kernel
theorem dX12_takeSign_15 : decode cX12_takeSign 15 = .ok (.putfield 159, 3) := by decide +kernel
theorem dX12_takeSign_18 : decode cX12_takeSign 18 = .ok (.goto 8, 3) := by decide +kernel
theorem dX12_takeSign_21 : decode cX12_takeSign 21 = .ok (.aload_n 0, 1) := by decide +kernel
theorem dX12_takeSign_22 : decode cX12_takeSign 22 = .ok (.iconst 1, 1) := by decide +kernel
theorem dX12_takeSign_23 : decode cX12_takeSign 23 = .ok (.invokevirtual 168, 3) := by decide +kernel
theorem dX12_takeSign_26 : decode cX12_takeSign 26 = .ok (.return_, 1) := by decide +kernel
noncomputable def FX12_takeSign (a0 : Nat) (p1 : Int32) : PP Unit := bd (FX12_isSign a0 p1) (fun x1 => bd (if ((b2i x1)) = 0 then bd (FX12_wrong a0 (1 : Int32)) (fun (_ : Unit) => pu ()) else bd (gI a0 7) (fun x3 => bd (sI a0 7 (x3 + (1 : Int32))) (fun (_ : Unit) => pu ())) : PP (Unit)) (fun (v4 : Unit) => pu ()))
set_option maxHeartbeats 4000000 in
set_option maxRecDepth 100000 in
theorem SX12_takeSign {l : Launch} {K : KK} {n : Nat} {hn : 270 ≤ n} (a0 : Nat) (p1 : Int32) (h0 : ob a0 11) : CT l K n 1 mX12_takeSign [.ref (K.2.1 + a0), .int p1] enU (FX12_takeSign a0 p1) := by
  refine CT.of2 (lv2 := [(0, .ref (K.2.1 + a0)), (1, .int p1)]) (by decide) rfl hn (Nat.le_of_ble_eq_true rfl) rfl (rp_id ?_)
  unfold FX12_takeSign
  refine rp_aload_n 0 dX12_takeSign_0 rfl ?_
  refine rp_iload_n 1 dX12_takeSign_1 rfl ?_
  refine rp_callVz [.int p1] (SX12_isSign (hn := hn) a0 p1 h0) cvX12_isSign (mw (i := 1523) (by decide +kernel)) (by omega) h0 (by decide) rfl rfl rfl (Nat.le_of_ble_eq_true rfl) dX12_takeSign_2 (fun x1 => ?_)
  refine rp_as ?_
  refine rp_join 26 (fun (v4 : Unit) => []) (fun v4 => []) (fun v4 => ?_) (fun hJ26 => ?_)
  · exact rp_pu (rp_vret rfl dX12_takeSign_26)
  refine rp_if_eq 21 dX12_takeSign_5 (by decide) ?_ ?_
  · refine rp_aload_n 0 dX12_takeSign_21 rfl ?_
    refine rp_iconst (1 : Int32) dX12_takeSign_22 (by decide) ?_
    refine rp_callVv [.int (1 : Int32)] (SX12_wrong (hn := hn) a0 (1 : Int32) h0) cvX12_wrong (mw (i := 1444) (by decide +kernel)) (by omega) h0 (by decide) rfl rfl rfl (Nat.le_of_ble_eq_true rfl) dX12_takeSign_23 (fun x2 => ?_)
    exact rp_sub [] rfl (rp_pu (hJ26 ()))
  · refine rp_aload_n 0 dX12_takeSign_8 rfl ?_
    refine rp_dup dX12_takeSign_9 rfl ?_
    refine rp_getI fi_X12_159 h0 rfl dX12_takeSign_10 (fun x3 => ?_)
    refine rp_iconst (1 : Int32) dX12_takeSign_13 (by decide) ?_
    refine rp_iadd dX12_takeSign_14 ?_
    refine rp_putI fi_X12_159 fp_X12_7 h0 rfl dX12_takeSign_15 ?_
    refine rp_goto 26 dX12_takeSign_18 (by decide) ?_
    exact rp_sub [] rfl (rp_pu (hJ26 ()))

theorem dX12_hasSign_0 : decode cX12_hasSign 0 = .ok (.aload_n 0, 1) := by decide +kernel
theorem dX12_hasSign_1 : decode cX12_hasSign 1 = .ok (.iload_n 1, 1) := by decide +kernel
theorem dX12_hasSign_2 : decode cX12_hasSign 2 = .ok (.invokevirtual 165, 3) := by decide +kernel
theorem dX12_hasSign_5 : decode cX12_hasSign 5 = .ok (.istore_n 2, 1) := by decide +kernel
theorem dX12_hasSign_6 : decode cX12_hasSign 6 = .ok (.aload_n 0, 1) := by decide +kernel
theorem dX12_hasSign_7 : decode cX12_hasSign 7 = .ok (.dup, 1) := by decide +kernel
theorem dX12_hasSign_8 : decode cX12_hasSign 8 = .ok (.getfield 159, 3) := by decide +kernel
theorem dX12_hasSign_11 : decode cX12_hasSign 11 = .ok (.iload_n 2, 1) := by decide +kernel
theorem dX12_hasSign_12 : decode cX12_hasSign 12 = .ok (.ifCond .eq 7, 3) := by decide +kernel
theorem dX12_hasSign_15 : decode cX12_hasSign 15 = .ok (.iconst 1, 1) := by decide +kernel
theorem dX12_hasSign_16 : decode cX12_hasSign 16 = .ok (.goto 4, 3) := by decide +kernel
theorem dX12_hasSign_19 : decode cX12_hasSign 19 = .ok (.iconst 0, 1) := by decide +kernel
theorem dX12_hasSign_20 : decode cX12_hasSign 20 = .ok (.iadd, 1) := by decide +kernel
theorem dX12_hasSign_21 : decode cX12_hasSign 21 = .ok (.putfield 159, 3) := by decide +kernel
theorem dX12_hasSign_24 : decode cX12_hasSign 24 = .ok (.iload_n 2, 1) := by decide +kernel
theorem dX12_hasSign_25 : decode cX12_hasSign 25 = .ok (.ireturn, 1) := by decide +kernel
noncomputable def FX12_hasSign (a0 : Nat) (p1 : Int32) : PP Bool := bd (FX12_isSign a0 p1) (fun x1 => lt ((b2i x1)) (fun y2 => bd (gI a0 7) (fun x3 => bd (if y2 = 0 then pu (0 : Int32) else pu (1 : Int32) : PP (Int32)) (fun (v4 : Int32) => bd (sI a0 7 (x3 + v4)) (fun (_ : Unit) => zb y2)))))
set_option maxHeartbeats 4000000 in
set_option maxRecDepth 100000 in
theorem SX12_hasSign {l : Launch} {K : KK} {n : Nat} {hn : 270 ≤ n} (a0 : Nat) (p1 : Int32) (h0 : ob a0 11) : CT l K n 1 mX12_hasSign [.ref (K.2.1 + a0), .int p1] enZ (FX12_hasSign a0 p1) := by
  refine CT.of2 (lv2 := [(0, .ref (K.2.1 + a0)), (1, .int p1)]) (by decide) rfl hn (Nat.le_of_ble_eq_true rfl) rfl (rp_id ?_)
  unfold FX12_hasSign
  refine rp_aload_n 0 dX12_hasSign_0 rfl ?_
  refine rp_iload_n 1 dX12_hasSign_1 rfl ?_
  refine rp_callVz [.int p1] (SX12_isSign (hn := hn) a0 p1 h0) cvX12_isSign (mw (i := 1523) (by decide +kernel)) (by omega) h0 (by decide) rfl rfl rfl (Nat.le_of_ble_eq_true rfl) dX12_hasSign_2 (fun x1 => ?_)
  refine rp_lti (fun y2 => ?_)
  refine rp_istore_n [(2, .int y2), (0, .ref (K.2.1 + a0)), (1, .int p1)] dX12_hasSign_5 (by decide) rfl ?_
  refine rp_aload_n 1 dX12_hasSign_6 rfl ?_
  refine rp_dup dX12_hasSign_7 rfl ?_
  refine rp_getI fi_X12_159 h0 rfl dX12_hasSign_8 (fun x3 => ?_)
  refine rp_iload_n 0 dX12_hasSign_11 rfl ?_
  refine rp_as ?_
  refine rp_join 20 (fun (v4 : Int32) => [(2, .int y2)]) (fun v4 => [.int v4, .int x3, .ref (K.2.1 + a0)]) (fun v4 => ?_) (fun hJ20 => ?_)
  · refine rp_iadd dX12_hasSign_20 ?_
    refine rp_putI fi_X12_159 fp_X12_7 h0 rfl dX12_hasSign_21 ?_
    refine rp_iload_n 0 dX12_hasSign_24 rfl ?_
    exact rp_zretb rfl dX12_hasSign_25
  refine rp_if_eq 19 dX12_hasSign_12 (by decide) ?_ ?_
  · refine rp_iconst (0 : Int32) dX12_hasSign_19 (by decide) ?_
    exact rp_sub [0] rfl (rp_pu (hJ20 (0 : Int32)))
  · refine rp_iconst (1 : Int32) dX12_hasSign_15 (by decide) ?_
    refine rp_goto 20 dX12_hasSign_16 (by decide) ?_
    exact rp_sub [0] rfl (rp_pu (hJ20 (1 : Int32)))

theorem dX12_hasWord_0 : decode cX12_hasWord 0 = .ok (.aload_n 0, 1) := by decide +kernel
theorem dX12_hasWord_1 : decode cX12_hasWord 1 = .ok (.iload_n 1, 1) := by decide +kernel
theorem dX12_hasWord_2 : decode cX12_hasWord 2 = .ok (.invokevirtual 171, 3) := by decide +kernel
theorem dX12_hasWord_5 : decode cX12_hasWord 5 = .ok (.istore_n 2, 1) := by decide +kernel
theorem dX12_hasWord_6 : decode cX12_hasWord 6 = .ok (.aload_n 0, 1) := by decide +kernel
theorem dX12_hasWord_7 : decode cX12_hasWord 7 = .ok (.dup, 1) := by decide +kernel
theorem dX12_hasWord_8 : decode cX12_hasWord 8 = .ok (.getfield 159, 3) := by decide +kernel
theorem dX12_hasWord_11 : decode cX12_hasWord 11 = .ok (.iload_n 2, 1) := by decide +kernel
theorem dX12_hasWord_12 : decode cX12_hasWord 12 = .ok (.ifCond .eq 7, 3) := by decide +kernel
theorem dX12_hasWord_15 : decode cX12_hasWord 15 = .ok (.iconst 1, 1) := by decide +kernel
theorem dX12_hasWord_16 : decode cX12_hasWord 16 = .ok (.goto 4, 3) := by decide +kernel
theorem dX12_hasWord_19 : decode cX12_hasWord 19 = .ok (.iconst 0, 1) := by decide +kernel
theorem dX12_hasWord_20 : decode cX12_hasWord 20 = .ok (.iadd, 1) := by decide +kernel
theorem dX12_hasWord_21 : decode cX12_hasWord 21 = .ok (.putfield 159, 3) := by decide +kernel
theorem dX12_hasWord_24 : decode cX12_hasWord 24 = .ok (.iload_n 2, 1) := by decide +kernel
theorem dX12_hasWord_25 : decode cX12_hasWord 25 = .ok (.ireturn, 1) := by decide +kernel
noncomputable def FX12_hasWord (a0 : Nat) (p1 : Int32) : PP Bool := bd (FX12_isWord a0 p1) (fun x1 => lt ((b2i x1)) (fun y2 => bd (gI a0 7) (fun x3 => bd (if y2 = 0 then pu (0 : Int32) else pu (1 : Int32) : PP (Int32)) (fun (v4 : Int32) => bd (sI a0 7 (x3 + v4)) (fun (_ : Unit) => zb y2)))))
set_option maxHeartbeats 4000000 in
set_option maxRecDepth 100000 in
theorem SX12_hasWord {l : Launch} {K : KK} {n : Nat} {hn : 270 ≤ n} (a0 : Nat) (p1 : Int32) (h0 : ob a0 11) : CT l K n 1 mX12_hasWord [.ref (K.2.1 + a0), .int p1] enZ (FX12_hasWord a0 p1) := by
  refine CT.of2 (lv2 := [(0, .ref (K.2.1 + a0)), (1, .int p1)]) (by decide) rfl hn (Nat.le_of_ble_eq_true rfl) rfl (rp_id ?_)
  unfold FX12_hasWord
  refine rp_aload_n 0 dX12_hasWord_0 rfl ?_
  refine rp_iload_n 1 dX12_hasWord_1 rfl ?_
  refine rp_callVz [.int p1] (SX12_isWord (hn := hn) a0 p1 h0) cvX12_isWord (mw (i := 1436) (by decide +kernel)) (by omega) h0 (by decide) rfl rfl rfl (Nat.le_of_ble_eq_true rfl) dX12_hasWord_2 (fun x1 => ?_)
  refine rp_lti (fun y2 => ?_)
  refine rp_istore_n [(2, .int y2), (0, .ref (K.2.1 + a0)), (1, .int p1)] dX12_hasWord_5 (by decide) rfl ?_
  refine rp_aload_n 1 dX12_hasWord_6 rfl ?_
  refine rp_dup dX12_hasWord_7 rfl ?_
  refine rp_getI fi_X12_159 h0 rfl dX12_hasWord_8 (fun x3 => ?_)
  refine rp_iload_n 0 dX12_hasWord_11 rfl ?_
  refine rp_as ?_
  refine rp_join 20 (fun (v4 : Int32) => [(2, .int y2)]) (fun v4 => [.int v4, .int x3, .ref (K.2.1 + a0)]) (fun v4 => ?_) (fun hJ20 => ?_)
  · refine rp_iadd dX12_hasWord_20 ?_
    refine rp_putI fi_X12_159 fp_X12_7 h0 rfl dX12_hasWord_21 ?_
    refine rp_iload_n 0 dX12_hasWord_24 rfl ?_
    exact rp_zretb rfl dX12_hasWord_25
  refine rp_if_eq 19 dX12_hasWord_12 (by decide) ?_ ?_
  · refine rp_iconst (0 : Int32) dX12_hasWord_19 (by decide) ?_
    exact rp_sub [0] rfl (rp_pu (hJ20 (0 : Int32)))
  · refine rp_iconst (1 : Int32) dX12_hasWord_15 (by decide) ?_
    refine rp_goto 20 dX12_hasWord_16 (by decide) ?_
    exact rp_sub [0] rfl (rp_pu (hJ20 (1 : Int32)))

theorem dX12_takeWord_0 : decode cX12_takeWord 0 = .ok (.aload_n 0, 1) := by decide +kernel
theorem dX12_takeWord_1 : decode cX12_takeWord 1 = .ok (.iload_n 1, 1) := by decide +kernel
theorem dX12_takeWord_2 : decode cX12_takeWord 2 = .ok (.invokevirtual 174, 3) := by decide +kernel
theorem dX12_takeWord_5 : decode cX12_takeWord 5 = .ok (.ifCond .ne 8, 3) := by decide +kernel
theorem dX12_takeWord_8 : decode cX12_takeWord 8 = .ok (.aload_n 0, 1) := by decide +kernel
theorem dX12_takeWord_9 : decode cX12_takeWord 9 = .ok (.iconst 1, 1) := by decide +kernel
theorem dX12_takeWord_10 : decode cX12_takeWord 10 = .ok (.invokevirtual 168, 3) := by decide +kernel
theorem dX12_takeWord_13 : decode cX12_takeWord 13 = .ok (.return_, 1) := by decide +kernel
noncomputable def FX12_takeWord (a0 : Nat) (p1 : Int32) : PP Unit := bd (FX12_hasWord a0 p1) (fun x1 => bd (if ((b2i x1)) = 0 then bd (FX12_wrong a0 (1 : Int32)) (fun (_ : Unit) => pu ()) else pu () : PP (Unit)) (fun (v3 : Unit) => pu ()))
set_option maxHeartbeats 4000000 in
set_option maxRecDepth 100000 in
theorem SX12_takeWord {l : Launch} {K : KK} {n : Nat} {hn : 270 ≤ n} (a0 : Nat) (p1 : Int32) (h0 : ob a0 11) : CT l K n 2 mX12_takeWord [.ref (K.2.1 + a0), .int p1] enU (FX12_takeWord a0 p1) := by
  refine CT.of2 (lv2 := [(0, .ref (K.2.1 + a0)), (1, .int p1)]) (by decide) rfl hn (Nat.le_of_ble_eq_true rfl) rfl (rp_id ?_)
  unfold FX12_takeWord
  refine rp_aload_n 0 dX12_takeWord_0 rfl ?_
  refine rp_iload_n 1 dX12_takeWord_1 rfl ?_
  refine rp_callVz [.int p1] (SX12_hasWord (hn := hn) a0 p1 h0) cvX12_hasWord (mw (i := 1468) (by decide +kernel)) (by omega) h0 (by decide) rfl rfl rfl (Nat.le_of_ble_eq_true rfl) dX12_takeWord_2 (fun x1 => ?_)
  refine rp_as ?_
  refine rp_join 13 (fun (v3 : Unit) => []) (fun v3 => []) (fun v3 => ?_) (fun hJ13 => ?_)
  · exact rp_pu (rp_vret rfl dX12_takeWord_13)
  refine rp_if_ne 13 dX12_takeWord_5 (by decide) ?_ ?_
  · exact rp_sub [] rfl (rp_pu (hJ13 ()))
  · refine rp_aload_n 0 dX12_takeWord_8 rfl ?_
    refine rp_iconst (1 : Int32) dX12_takeWord_9 (by decide) ?_
    refine rp_callVv [.int (1 : Int32)] (SX12_wrong (hn := hn) a0 (1 : Int32) h0) cvX12_wrong (mw (i := 1444) (by decide +kernel)) (by omega) h0 (by decide) rfl rfl rfl (Nat.le_of_ble_eq_true rfl) dX12_takeWord_10 (fun x2 => ?_)
    exact rp_sub [] rfl (rp_pu (hJ13 ()))

theorem dX12_within_0 : decode cX12_within 0 = .ok (.iload_n 0, 1) := by decide +kernel
theorem dX12_within_1 : decode cX12_within 1 = .ok (.iload_n 1, 1) := by decide +kernel
theorem dX12_within_2 : decode cX12_within 2 = .ok (.if_icmp .lt 12, 3) := by decide +kernel
theorem dX12_within_5 : decode cX12_within 5 = .ok (.iload_n 0, 1) := by decide +kernel
theorem dX12_within_6 : decode cX12_within 6 = .ok (.iload_n 2, 1) := by decide +kernel
theorem dX12_within_7 : decode cX12_within 7 = .ok (.if_icmp .gt 7, 3) := by decide +kernel
theorem dX12_within_10 : decode cX12_within 10 = .ok (.iconst 1, 1) := by decide +kernel
theorem dX12_within_11 : decode cX12_within 11 = .ok (.goto 4, 3) := by decide +kernel
theorem dX12_within_14 : decode cX12_within 14 = .ok (.iconst 0, 1) := by decide +kernel
theorem dX12_within_15 : decode cX12_within 15 = .ok (.ireturn, 1) := by decide +kernel
noncomputable def FX12_within (p1 : Int32) (p2 : Int32) (p3 : Int32) : PP Bool := bd (if p1 < p2 then pu (0 : Int32) else if p3 < p1 then pu (0 : Int32) else pu (1 : Int32) : PP (Int32)) (fun (v1 : Int32) => zb v1)
set_option maxHeartbeats 4000000 in
set_option maxRecDepth 100000 in
theorem SX12_within {l : Launch} {K : KK} {n : Nat} {hn : 270 ≤ n} (p1 : Int32) (p2 : Int32) (p3 : Int32) : CT l K n 0 mX12_within [.int p1, .int p2, .int p3] enZ (FX12_within p1 p2 p3) := by
  refine CT.of2 (lv2 := [(0, .int p1), (1, .int p2), (2, .int p3)]) (by decide) rfl hn (Nat.le_of_ble_eq_true rfl) rfl (rp_id ?_)
  unfold FX12_within
  refine rp_iload_n 0 dX12_within_0 rfl ?_
  refine rp_iload_n 1 dX12_within_1 rfl ?_
  refine rp_as ?_
  refine rp_join 15 (fun (v1 : Int32) => []) (fun v1 => [.int v1]) (fun v1 => ?_) (fun hJ15 => ?_)
  · exact rp_zretb rfl dX12_within_15
  refine rp_icmp_lt 14 dX12_within_2 (by decide) ?_ ?_
  · refine rp_iconst (0 : Int32) dX12_within_14 (by decide) ?_
    exact rp_sub [] rfl (rp_pu (hJ15 (0 : Int32)))
  · refine rp_iload_n 0 dX12_within_5 rfl ?_
    refine rp_iload_n 2 dX12_within_6 rfl ?_
    refine rp_icmp_gt 14 dX12_within_7 (by decide) ?_ ?_
    · refine rp_iconst (0 : Int32) dX12_within_14 (by decide) ?_
      exact rp_sub [] rfl (rp_pu (hJ15 (0 : Int32)))
    · refine rp_iconst (1 : Int32) dX12_within_10 (by decide) ?_
      refine rp_goto 15 dX12_within_11 (by decide) ?_
      exact rp_sub [] rfl (rp_pu (hJ15 (1 : Int32)))

theorem dX12_standsAsAlways_0 : decode cX12_standsAsAlways 0 = .ok (.iconst 0, 1) := by decide +kernel
theorem dX12_standsAsAlways_1 : decode cX12_standsAsAlways 1 = .ok (.istore_n 2, 1) := by decide +kernel
theorem dX12_standsAsAlways_2 : decode cX12_standsAsAlways 2 = .ok (.iload_n 2, 1) := by decide +kernel
theorem dX12_standsAsAlways_3 : decode cX12_standsAsAlways 3 = .ok (.bipush 40, 2) := by decide +kernel
theorem dX12_standsAsAlways_5 : decode cX12_standsAsAlways 5 = .ok (.if_icmp .ge 18, 3) := by decide +kernel
theorem dX12_standsAsAlways_8 : decode cX12_standsAsAlways 8 = .ok (.aload_n 0, 1) := by decide +kernel
theorem dX12_standsAsAlways_9 : decode cX12_standsAsAlways 9 = .ok (.getfield 83, 3) := by decide +kernel
theorem dX12_standsAsAlways_12 : decode cX12_standsAsAlways 12 = .ok (.iload_n 1, 1) := by decide +kernel
theorem dX12_standsAsAlways_13 : decode cX12_standsAsAlways 13 = .ok (.iload_n 2, 1) := by decide +kernel
theorem dX12_standsAsAlways_14 : decode cX12_standsAsAlways 14 = .ok (.iadd, 1) := by decide +kernel
theorem dX12_standsAsAlways_15 : decode cX12_standsAsAlways 15 = .ok (.iconst 0, 1) := by decide +kernel
theorem dX12_standsAsAlways_16 : decode cX12_standsAsAlways 16 = .ok (.iastore, 1) := by decide +kernel
theorem dX12_standsAsAlways_17 : decode cX12_standsAsAlways 17 = .ok (.iinc 2 1, 3) := by decide +kernel
theorem dX12_standsAsAlways_20 : decode cX12_standsAsAlways 20 = .ok (.goto (-18), 3) := by decide +kernel
theorem dX12_standsAsAlways_23 : decode cX12_standsAsAlways 23 = .ok (.aload_n 0, 1) := by decide +kernel
theorem dX12_standsAsAlways_24 : decode cX12_standsAsAlways 24 = .ok (.getfield 83, 3) := by decide +kernel
theorem dX12_standsAsAlways_27 : decode cX12_standsAsAlways 27 = .ok (.iload_n 1, 1) := by decide +kernel
theorem dX12_standsAsAlways_28 : decode cX12_standsAsAlways 28 = .ok (.iconst 3, 1) := by decide +kernel
theorem dX12_standsAsAlways_29 : decode cX12_standsAsAlways 29 = .ok (.iadd, 1) := by decide +kernel
theorem dX12_standsAsAlways_30 : decode cX12_standsAsAlways 30 = .ok (.iconst (-1), 1) := by decide +kernel
theorem dX12_standsAsAlways_31 : decode cX12_standsAsAlways 31 = .ok (.iastore, 1) := by decide +kernel
theorem dX12_standsAsAlways_32 : decode cX12_standsAsAlways 32 = .ok (.return_, 1) := by decide +kernel
noncomputable def FX12_standsAsAlways (a0 : Nat) (p1 : Int32) : PP Unit := bd (it (fun (s1 : Int32) => (if (40 : Int32) ≤ s1 then pu (Sum.inr ()) else bd (uI (rf a0 10) 80 (p1 + s1) (0 : Int32)) (fun (_ : Unit) => lt (s1 + (1 : Int32)) (fun y2 => pu (Sum.inl y2))) : PP ((Int32) ⊕ (Unit)))) FU (0 : Int32)) (fun (v3 : Unit) => bd (uI (rf a0 10) 80 (p1 + (3 : Int32)) (-1 : Int32)) (fun (_ : Unit) => pu ()))
set_option maxHeartbeats 4000000 in
set_option maxRecDepth 100000 in
theorem SX12_standsAsAlways {l : Launch} {K : KK} {n : Nat} {hn : 270 ≤ n} (a0 : Nat) (p1 : Int32) (h0 : ob a0 11) : CT l K n 0 mX12_standsAsAlways [.ref (K.2.1 + a0), .int p1] enU (FX12_standsAsAlways a0 p1) := by
  refine CT.of2 (lv2 := [(0, .ref (K.2.1 + a0)), (1, .int p1)]) (by decide) rfl hn (Nat.le_of_ble_eq_true rfl) rfl (rp_id ?_)
  unfold FX12_standsAsAlways
  refine rp_iconst (0 : Int32) dX12_standsAsAlways_0 (by decide) ?_
  refine rp_istore_n [(2, .int (0 : Int32)), (0, .ref (K.2.1 + a0)), (1, .int p1)] dX12_standsAsAlways_1 (by decide) rfl ?_
  refine rp_as ?_
  refine rp_join 23 (fun v3 => [(0, .ref (K.2.1 + a0)), (1, .int p1)]) (fun _ => []) (fun v3 => ?_) (fun hX2_0 => ?_)
  · refine rp_aload_n 0 dX12_standsAsAlways_23 rfl ?_
    refine rp_getR fi_X12_83 h0 rfl dX12_standsAsAlways_24 ?_
    refine rp_iload_n 1 dX12_standsAsAlways_27 rfl ?_
    refine rp_iconst (3 : Int32) dX12_standsAsAlways_28 (by decide) ?_
    refine rp_iadd dX12_standsAsAlways_29 ?_
    refine rp_iconst (-1 : Int32) dX12_standsAsAlways_30 (by decide) ?_
    refine rp_iast (tX12_10 h0) dX12_standsAsAlways_31 ?_
    exact rp_pu (rp_vret rfl dX12_standsAsAlways_32)
  refine rp_sub [1, 2, 0] rfl (rp_it (fun (s1 : Int32) => [(0, .ref (K.2.1 + a0)), (1, .int p1), (2, .int s1)]) (fun N2 ih2 s1 => ?_) FU (0 : Int32))
  refine rp_iload_n 2 dX12_standsAsAlways_2 rfl ?_
  refine rp_bipush (40 : Int32) dX12_standsAsAlways_3 (by decide) ?_
  refine rp_icmp_ge 23 dX12_standsAsAlways_5 (by decide) ?_ ?_
  · exact rp_sub [0, 1] rfl (rp_puR (hX2_0 ()))
  · refine rp_aload_n 0 dX12_standsAsAlways_8 rfl ?_
    refine rp_getR fi_X12_83 h0 rfl dX12_standsAsAlways_9 ?_
    refine rp_iload_n 1 dX12_standsAsAlways_12 rfl ?_
    refine rp_iload_n 2 dX12_standsAsAlways_13 rfl ?_
    refine rp_iadd dX12_standsAsAlways_14 ?_
    refine rp_iconst (0 : Int32) dX12_standsAsAlways_15 (by decide) ?_
    refine rp_iast (tX12_10 h0) dX12_standsAsAlways_16 ?_
    refine rp_iinc (fun y2 => [(2, .int y2), (0, .ref (K.2.1 + a0)), (1, .int p1)]) 2 dX12_standsAsAlways_17 rfl (by rfl) (by decide) (fun y2 => rfl) (fun y2 => ?_)
    refine rp_goto 2 dX12_standsAsAlways_20 (by decide) ?_
    exact rp_sub [1, 2, 0] rfl (ih2 y2)

theorem dX12_takeNumber_0 : decode cX12_takeNumber 0 = .ok (.aload_n 0, 1) := by decide +kernel
theorem dX12_takeNumber_1 : decode cX12_takeNumber 1 = .ok (.getfield 162, 3) := by decide +kernel
theorem dX12_takeNumber_4 : decode cX12_takeNumber 4 = .ok (.ifCond .ne 24, 3) := by decide +kernel
theorem dX12_takeNumber_7 : decode cX12_takeNumber 7 = .ok (.aload_n 0, 1) := by decide +kernel
theorem dX12_takeNumber_8 : decode cX12_takeNumber 8 = .ok (.getfield 24, 3) := by decide +kernel
theorem dX12_takeNumber_11 : decode cX12_takeNumber 11 = .ok (.aload_n 0, 1) := by decide +kernel
theorem dX12_takeNumber_12 : decode cX12_takeNumber 12 = .ok (.getfield 159, 3) := by decide +kernel
theorem dX12_takeNumber_15 : decode cX12_takeNumber 15 = .ok (.iaload, 1) := by decide +kernel
theorem dX12_takeNumber_16 : decode cX12_takeNumber 16 = .ok (.iconst 2, 1) := by decide +kernel
theorem dX12_takeNumber_17 : decode cX12_takeNumber 17 = .ok (.if_icmp .eq 11, 3) := by decide +kernel
theorem dX12_takeNumber_20 : decode cX12_takeNumber 20 = .ok (.aload_n 0, 1) := by decide +kernel
theorem dX12_takeNumber_21 : decode cX12_takeNumber 21 = .ok (.iconst 1, 1) := by decide +kernel
theorem dX12_takeNumber_22 : decode cX12_takeNumber 22 = .ok (.invokevirtual 168, 3) := by decide +kernel
theorem dX12_takeNumber_25 : decode cX12_takeNumber 25 = .ok (.goto 45, 3) := by decide +kernel
theorem dX12_takeNumber_28 : decode cX12_takeNumber 28 = .ok (.aload_n 0, 1) := by decide +kernel
theorem dX12_takeNumber_29 : decode cX12_takeNumber 29 = .ok (.getfield 162, 3) := by decide +kernel
theorem dX12_takeNumber_32 : decode cX12_takeNumber 32 = .ok (.ifCond .ne 38, 3) := by decide +kernel
theorem dX12_takeNumber_35 : decode cX12_takeNumber 35 = .ok (.aload_n 0, 1) := by decide +kernel
theorem dX12_takeNumber_36 : decode cX12_takeNumber 36 = .ok (.getfield 30, 3) := by decide +kernel
theorem dX12_takeNumber_39 : decode cX12_takeNumber 39 = .ok (.aload_n 0, 1) := by decide +kernel
theorem dX12_takeNumber_40 : decode cX12_takeNumber 40 = .ok (.getfield 159, 3) := by decide +kernel
theorem dX12_takeNumber_43 : decode cX12_takeNumber 43 = .ok (.laload, 1) := by decide +kernel
theorem dX12_takeNumber_44 : decode cX12_takeNumber 44 = .ok (.iload_n 1, 1) := by decide +kernel
theorem dX12_takeNumber_45 : decode cX12_takeNumber 45 = .ok (.i2l, 1) := by decide +kernel
theorem dX12_takeNumber_46 : decode cX12_takeNumber 46 = .ok (.lcmp, 1) := by decide +kernel
theorem dX12_takeNumber_47 : decode cX12_takeNumber 47 = .ok (.ifCond .lt 18, 3) := by decide +kernel
theorem dX12_takeNumber_50 : decode cX12_takeNumber 50 = .ok (.aload_n 0, 1) := by decide +kernel
theorem dX12_takeNumber_51 : decode cX12_takeNumber 51 = .ok (.getfield 30, 3) := by decide +kernel
theorem dX12_takeNumber_54 : decode cX12_takeNumber 54 = .ok (.aload_n 0, 1) := by decide +kernel
theorem dX12_takeNumber_55 : decode cX12_takeNumber 55 = .ok (.getfield 159, 3) := by decide +kernel
theorem dX12_takeNumber_58 : decode cX12_takeNumber 58 = .ok (.laload, 1) := by decide +kernel
theorem dX12_takeNumber_59 : decode cX12_takeNumber 59 = .ok (.iload_n 2, 1) := by decide +kernel
theorem dX12_takeNumber_60 : decode cX12_takeNumber 60 = .ok (.i2l, 1) := by decide +kernel
theorem dX12_takeNumber_61 : decode cX12_takeNumber 61 = .ok (.lcmp, 1) := by decide +kernel
theorem dX12_takeNumber_62 : decode cX12_takeNumber 62 = .ok (.ifCond .le 8, 3) := by decide +kernel
theorem dX12_takeNumber_65 : decode cX12_takeNumber 65 = .ok (.aload_n 0, 1) := by decide +kernel
theorem dX12_takeNumber_66 : decode cX12_takeNumber 66 = .ok (.iconst 4, 1) := by decide +kernel
theorem dX12_takeNumber_67 : decode cX12_takeNumber 67 = .ok (.invokevirtual 168, 3) := by decide +kernel
theorem dX12_takeNumber_70 : decode cX12_takeNumber 70 = .ok (.aload_n 0, 1) := by decide +kernel
theorem dX12_takeNumber_71 : decode cX12_takeNumber 71 = .ok (.getfield 162, 3) := by decide +kernel
theorem dX12_takeNumber_74 : decode cX12_takeNumber 74 = .ok (.ifCond .le 5, 3) := by decide +kernel
theorem dX12_takeNumber_77 : decode cX12_takeNumber 77 = .ok (.iconst 0, 1) := by decide +kernel
theorem dX12_takeNumber_78 : decode cX12_takeNumber 78 = .ok (.ireturn, 1) := by decide +kernel
theorem dX12_takeNumber_79 : decode cX12_takeNumber 79 = .ok (.aload_n 0, 1) := by decide +kernel
theorem dX12_takeNumber_80 : decode cX12_takeNumber 80 = .ok (.dup, 1) := by decide +kernel
theorem dX12_takeNumber_81 : decode cX12_takeNumber 81 = .ok (.getfield 159, 3) := by decide +kernel
theorem dX12_takeNumber_84 : decode cX12_takeNumber 84 = .ok (.iconst 1, 1) := by decide +kernel
theorem dX12_takeNumber_85 : decode cX12_takeNumber 85 = .ok (.iadd, 1) := by decide +kernel
theorem dX12_takeNumber_86 : decode cX12_takeNumber 86 = .ok (.putfield 159, 3) := by decide +kernel
theorem dX12_takeNumber_89 : decode cX12_takeNumber 89 = .ok (.aload_n 0, 1) := by decide +kernel
theorem dX12_takeNumber_90 : decode cX12_takeNumber 90 = .ok (.getfield 30, 3) := by decide +kernel
theorem dX12_takeNumber_93 : decode cX12_takeNumber 93 = .ok (.aload_n 0, 1) := by decide +kernel
theorem dX12_takeNumber_94 : decode cX12_takeNumber 94 = .ok (.getfield 159, 3) := by decide +kernel
theorem dX12_takeNumber_97 : decode cX12_takeNumber 97 = .ok (.iconst 1, 1) := by decide +kernel
theorem dX12_takeNumber_98 : decode cX12_takeNumber 98 = .ok (.isub, 1) := by decide +kernel
theorem dX12_takeNumber_99 : decode cX12_takeNumber 99 = .ok (.laload, 1) := by decide +kernel
theorem dX12_takeNumber_100 : decode cX12_takeNumber 100 = .ok (.l2i, 1) := by decide +kernel
theorem dX12_takeNumber_101 : decode cX12_takeNumber 101 = .ok (.ireturn, 1) := by decide +kernel
noncomputable def FX12_takeNumber (a0 : Nat) (p1 : Int32) (p2 : Int32) : PP Int32 := bd (gI a0 8) (fun x1 => bd (jn (fun (v6 : Unit) => bd (gI a0 8) (fun x7 => if x7 = 0 then bd (gI a0 7) (fun x8 => bd (aL (rf a0 6) 1002 x8) (fun x9 => if (lg_cmp x9 p1.toInt64) < 0 then bd (FX12_wrong a0 (4 : Int32)) (fun (_ : Unit) => pu ()) else bd (gI a0 7) (fun x11 => bd (aL (rf a0 6) 1002 x11) (fun x12 => if (lg_cmp x12 p2.toInt64) ≤ 0 then pu () else bd (FX12_wrong a0 (4 : Int32)) (fun (_ : Unit) => pu ()))))) else pu ())) (fun j2 => if x1 = 0 then bd (gI a0 7) (fun x3 => bd (aI (rf a0 4) 1002 x3) (fun x4 => if x4 = (2 : Int32) then j2 () else bd (FX12_wrong a0 (1 : Int32)) (fun (_ : Unit) => pu ()))) else j2 ()) : PP (Unit)) (fun (v14 : Unit) => bd (gI a0 8) (fun x15 => if x15 ≤ 0 then bd (gI a0 7) (fun x16 => bd (sI a0 7 (x16 + (1 : Int32))) (fun (_ : Unit) => bd (gI a0 7) (fun x17 => bd (aL (rf a0 6) 1002 (x17 - (1 : Int32))) (fun x18 => pu x18.toInt32)))) else pu (0 : Int32))))
set_option maxHeartbeats 4000000 in
set_option maxRecDepth 100000 in
theorem SX12_takeNumber {l : Launch} {K : KK} {n : Nat} {hn : 270 ≤ n} (a0 : Nat) (p1 : Int32) (p2 : Int32) (h0 : ob a0 11) : CT l K n 1 mX12_takeNumber [.ref (K.2.1 + a0), .int p1, .int p2] enI (FX12_takeNumber a0 p1 p2) := by
  refine CT.of2 (lv2 := [(0, .ref (K.2.1 + a0)), (1, .int p1), (2, .int p2)]) (by decide) rfl hn (Nat.le_of_ble_eq_true rfl) rfl (rp_id ?_)
  unfold FX12_takeNumber
  refine rp_aload_n 0 dX12_takeNumber_0 rfl ?_
  refine rp_getI fi_X12_162 h0 rfl dX12_takeNumber_1 (fun x1 => ?_)
  refine rp_as ?_
  refine rp_join 70 (fun (v14 : Unit) => [(0, .ref (K.2.1 + a0))]) (fun v14 => []) (fun v14 => ?_) (fun hJ70 => ?_)
  · refine rp_aload_n 0 dX12_takeNumber_70 rfl ?_
    refine rp_getI fi_X12_162 h0 rfl dX12_takeNumber_71 (fun x15 => ?_)
    refine rp_if_le 79 dX12_takeNumber_74 (by decide) ?_ ?_
    · refine rp_aload_n 0 dX12_takeNumber_79 rfl ?_
      refine rp_dup dX12_takeNumber_80 rfl ?_
      refine rp_getI fi_X12_159 h0 rfl dX12_takeNumber_81 (fun x16 => ?_)
      refine rp_iconst (1 : Int32) dX12_takeNumber_84 (by decide) ?_
      refine rp_iadd dX12_takeNumber_85 ?_
      refine rp_putI fi_X12_159 fp_X12_7 h0 rfl dX12_takeNumber_86 ?_
      refine rp_aload_n 0 dX12_takeNumber_89 rfl ?_
      refine rp_getR fi_X12_30 h0 rfl dX12_takeNumber_90 ?_
      refine rp_aload_n 0 dX12_takeNumber_93 rfl ?_
      refine rp_getI fi_X12_159 h0 rfl dX12_takeNumber_94 (fun x17 => ?_)
      refine rp_iconst (1 : Int32) dX12_takeNumber_97 (by decide) ?_
      refine rp_isub dX12_takeNumber_98 ?_
      refine rp_lald (tX12_6 h0) dX12_takeNumber_99 (fun x18 => ?_)
      refine rp_l2i dX12_takeNumber_100 ?_
      exact rp_pu (rp_iret rfl dX12_takeNumber_101)
    · refine rp_iconst (0 : Int32) dX12_takeNumber_77 (by decide) ?_
      exact rp_pu (rp_iret rfl dX12_takeNumber_78)
  refine rp_jn2 28 (fun (v6 : Unit) => [(0, .ref (K.2.1 + a0)), (1, .int p1), (2, .int p2)]) (fun v6 => []) (fun v6 => ?_) (fun hK28 => ?_)
  · refine rp_aload_n 0 dX12_takeNumber_28 rfl ?_
    refine rp_getI fi_X12_162 h0 rfl dX12_takeNumber_29 (fun x7 => ?_)
    refine rp_if_ne 70 dX12_takeNumber_32 (by decide) ?_ ?_
    · exact rp_sub [0] rfl (rp_pu (hJ70 ()))
    · refine rp_aload_n 0 dX12_takeNumber_35 rfl ?_
      refine rp_getR fi_X12_30 h0 rfl dX12_takeNumber_36 ?_
      refine rp_aload_n 0 dX12_takeNumber_39 rfl ?_
      refine rp_getI fi_X12_159 h0 rfl dX12_takeNumber_40 (fun x8 => ?_)
      refine rp_lald (tX12_6 h0) dX12_takeNumber_43 (fun x9 => ?_)
      refine rp_iload_n 1 dX12_takeNumber_44 rfl ?_
      refine rp_i2l dX12_takeNumber_45 ?_
      refine rp_lcmp dX12_takeNumber_46 ?_
      refine rp_if_lt 65 dX12_takeNumber_47 (by decide) ?_ ?_
      · refine rp_aload_n 0 dX12_takeNumber_65 rfl ?_
        refine rp_iconst (4 : Int32) dX12_takeNumber_66 (by decide) ?_
        refine rp_callVv [.int (4 : Int32)] (SX12_wrong (hn := hn) a0 (4 : Int32) h0) cvX12_wrong (mw (i := 1444) (by decide +kernel)) (by omega) h0 (by decide) rfl rfl rfl (Nat.le_of_ble_eq_true rfl) dX12_takeNumber_67 (fun x10 => ?_)
        exact rp_sub [0] rfl (rp_pu (hJ70 ()))
      · refine rp_aload_n 0 dX12_takeNumber_50 rfl ?_
        refine rp_getR fi_X12_30 h0 rfl dX12_takeNumber_51 ?_
        refine rp_aload_n 0 dX12_takeNumber_54 rfl ?_
        refine rp_getI fi_X12_159 h0 rfl dX12_takeNumber_55 (fun x11 => ?_)
        refine rp_lald (tX12_6 h0) dX12_takeNumber_58 (fun x12 => ?_)
        refine rp_iload_n 2 dX12_takeNumber_59 rfl ?_
        refine rp_i2l dX12_takeNumber_60 ?_
        refine rp_lcmp dX12_takeNumber_61 ?_
        refine rp_if_le 70 dX12_takeNumber_62 (by decide) ?_ ?_
        · exact rp_sub [0] rfl (rp_pu (hJ70 ()))
        · refine rp_aload_n 0 dX12_takeNumber_65 rfl ?_
          refine rp_iconst (4 : Int32) dX12_takeNumber_66 (by decide) ?_
          refine rp_callVv [.int (4 : Int32)] (SX12_wrong (hn := hn) a0 (4 : Int32) h0) cvX12_wrong (mw (i := 1444) (by decide +kernel)) (by omega) h0 (by decide) rfl rfl rfl (Nat.le_of_ble_eq_true rfl) dX12_takeNumber_67 (fun x13 => ?_)
          exact rp_sub [0] rfl (rp_pu (hJ70 ()))
  refine rp_if_ne 28 dX12_takeNumber_4 (by decide) ?_ ?_
  · exact rp_sub [0, 1, 2] rfl (hK28 ())
  · refine rp_aload_n 0 dX12_takeNumber_7 rfl ?_
    refine rp_getR fi_X12_24 h0 rfl dX12_takeNumber_8 ?_
    refine rp_aload_n 0 dX12_takeNumber_11 rfl ?_
    refine rp_getI fi_X12_159 h0 rfl dX12_takeNumber_12 (fun x3 => ?_)
    refine rp_iald (tX12_4 h0) dX12_takeNumber_15 (fun x4 => ?_)
    refine rp_iconst (2 : Int32) dX12_takeNumber_16 (by decide) ?_
    refine rp_icmp_eq 28 dX12_takeNumber_17 (by decide) ?_ ?_
    · exact rp_sub [0, 1, 2] rfl (hK28 ())
    · refine rp_aload_n 0 dX12_takeNumber_20 rfl ?_
      refine rp_iconst (1 : Int32) dX12_takeNumber_21 (by decide) ?_
      refine rp_callVv [.int (1 : Int32)] (SX12_wrong (hn := hn) a0 (1 : Int32) h0) cvX12_wrong (mw (i := 1444) (by decide +kernel)) (by omega) h0 (by decide) rfl rfl rfl (Nat.le_of_ble_eq_true rfl) dX12_takeNumber_22 (fun x5 => ?_)
      refine rp_goto 70 dX12_takeNumber_25 (by decide) ?_
      exact rp_sub [0] rfl (rp_pu (hJ70 ()))

theorem dX12_takeAfter_0 : decode cX12_takeAfter 0 = .ok (.aload_n 0, 1) := by decide +kernel
theorem dX12_takeAfter_1 : decode cX12_takeAfter 1 = .ok (.iload_n 1, 1) := by decide +kernel
theorem dX12_takeAfter_2 : decode cX12_takeAfter 2 = .ok (.invokevirtual 177, 3) := by decide +kernel
theorem dX12_takeAfter_5 : decode cX12_takeAfter 5 = .ok (.aload_n 0, 1) := by decide +kernel
theorem dX12_takeAfter_6 : decode cX12_takeAfter 6 = .ok (.iload_n 2, 1) := by decide +kernel
theorem dX12_takeAfter_7 : decode cX12_takeAfter 7 = .ok (.iload_n 3, 1) := by decide +kernel
theorem dX12_takeAfter_8 : decode cX12_takeAfter 8 = .ok (.invokevirtual 180, 3) := by decide +kernel
theorem dX12_takeAfter_11 : decode cX12_takeAfter 11 = .ok (.ireturn, 1) := by decide +kernel
noncomputable def FX12_takeAfter (a0 : Nat) (p1 : Int32) (p2 : Int32) (p3 : Int32) : PP Int32 := bd (FX12_takeWord a0 p1) (fun (_ : Unit) => bd (FX12_takeNumber a0 p2 p3) (fun x2 => pu x2))
set_option maxHeartbeats 4000000 in
set_option maxRecDepth 100000 in
theorem SX12_takeAfter {l : Launch} {K : KK} {n : Nat} {hn : 270 ≤ n} (a0 : Nat) (p1 : Int32) (p2 : Int32) (p3 : Int32) (h0 : ob a0 11) : CT l K n 3 mX12_takeAfter [.ref (K.2.1 + a0), .int p1, .int p2, .int p3] enI (FX12_takeAfter a0 p1 p2 p3) := by
  refine CT.of2 (lv2 := [(0, .ref (K.2.1 + a0)), (1, .int p1), (2, .int p2), (3, .int p3)]) (by decide) rfl hn (Nat.le_of_ble_eq_true rfl) rfl (rp_id ?_)
  unfold FX12_takeAfter
  refine rp_aload_n 0 dX12_takeAfter_0 rfl ?_
  refine rp_iload_n 1 dX12_takeAfter_1 rfl ?_
  refine rp_callVv [.int p1] (SX12_takeWord (hn := hn) a0 p1 h0) cvX12_takeWord (mw (i := 1464) (by decide +kernel)) (by omega) h0 (by decide) rfl rfl rfl (Nat.le_of_ble_eq_true rfl) dX12_takeAfter_2 (fun x1 => ?_)
  refine rp_aload_n 0 dX12_takeAfter_5 rfl ?_
  refine rp_iload_n 2 dX12_takeAfter_6 rfl ?_
  refine rp_iload_n 3 dX12_takeAfter_7 rfl ?_
  refine rp_callVi [.int p2, .int p3] (SX12_takeNumber (hn := hn) a0 p2 p3 h0) cvX12_takeNumber (mw (i := 1472) (by decide +kernel)) (by omega) h0 (by decide) rfl rfl rfl (Nat.le_of_ble_eq_true rfl) dX12_takeAfter_8 (fun x2 => ?_)
  exact rp_pu (rp_iret rfl dX12_takeAfter_11)

theorem dX12_wordHere_0 : decode cX12_wordHere 0 = .ok (.iconst (-1), 1) := by decide +kernel
theorem dX12_wordHere_1 : decode cX12_wordHere 1 = .ok (.istore_n 3, 1) := by decide +kernel
theorem dX12_wordHere_2 : decode cX12_wordHere 2 = .ok (.iconst 0, 1) := by decide +kernel
theorem dX12_wordHere_3 : decode cX12_wordHere 3 = .ok (.istore 4, 2) := by decide +kernel
theorem dX12_wordHere_5 : decode cX12_wordHere 5 = .ok (.iload 4, 2) := by decide +kernel
theorem dX12_wordHere_7 : decode cX12_wordHere 7 = .ok (.iload_n 2, 1) := by decide +kernel
theorem dX12_wordHere_8 : decode cX12_wordHere 8 = .ok (.if_icmp .ge 27, 3) := by decide +kernel
theorem dX12_wordHere_11 : decode cX12_wordHere 11 = .ok (.aload_n 0, 1) := by decide +kernel
theorem dX12_wordHere_12 : decode cX12_wordHere 12 = .ok (.iload_n 1, 1) := by decide +kernel
theorem dX12_wordHere_13 : decode cX12_wordHere 13 = .ok (.iload 4, 2) := by decide +kernel
theorem dX12_wordHere_15 : decode cX12_wordHere 15 = .ok (.iadd, 1) := by decide +kernel
theorem dX12_wordHere_16 : decode cX12_wordHere 16 = .ok (.invokevirtual 171, 3) := by decide +kernel
theorem dX12_wordHere_19 : decode cX12_wordHere 19 = .ok (.ifCond .eq 8, 3) := by decide +kernel
theorem dX12_wordHere_22 : decode cX12_wordHere 22 = .ok (.iload 4, 2) := by decide +kernel
theorem dX12_wordHere_24 : decode cX12_wordHere 24 = .ok (.goto 4, 3) := by decide +kernel
theorem dX12_wordHere_27 : decode cX12_wordHere 27 = .ok (.iload_n 3, 1) := by decide +kernel
theorem dX12_wordHere_28 : decode cX12_wordHere 28 = .ok (.istore_n 3, 1) := by decide +kernel
theorem dX12_wordHere_29 : decode cX12_wordHere 29 = .ok (.iinc 4 1, 3) := by decide +kernel
theorem dX12_wordHere_32 : decode cX12_wordHere 32 = .ok (.goto (-27), 3) := by decide +kernel
theorem dX12_wordHere_35 : decode cX12_wordHere 35 = .ok (.iload_n 3, 1) := by decide +kernel
theorem dX12_wordHere_36 : decode cX12_wordHere 36 = .ok (.ireturn, 1) := by decide +kernel
noncomputable def FX12_wordHere (a0 : Nat) (p1 : Int32) (p2 : Int32) : PP Int32 := bd (it (fun (s1 : Int32 × Int32) => (if p2 ≤ s1.2 then pu (Sum.inr s1.1) else bd (FX12_isWord a0 (p1 + s1.2)) (fun x2 => bd (if ((b2i x2)) = 0 then pu s1.1 else pu s1.2 : PP (Int32)) (fun (v3 : Int32) => lt (s1.2 + (1 : Int32)) (fun y4 => pu (Sum.inl (v3, y4))))) : PP ((Int32 × Int32) ⊕ (Int32)))) FU ((-1 : Int32), (0 : Int32))) (fun (v5 : Int32) => pu v5)
set_option maxHeartbeats 4000000 in
set_option maxRecDepth 100000 in
theorem SX12_wordHere {l : Launch} {K : KK} {n : Nat} {hn : 270 ≤ n} (a0 : Nat) (p1 : Int32) (p2 : Int32) (h0 : ob a0 11) : CT l K n 1 mX12_wordHere [.ref (K.2.1 + a0), .int p1, .int p2] enI (FX12_wordHere a0 p1 p2) := by
  refine CT.of2 (lv2 := [(0, .ref (K.2.1 + a0)), (1, .int p1), (2, .int p2)]) (by decide) rfl hn (Nat.le_of_ble_eq_true rfl) rfl (rp_id ?_)
  unfold FX12_wordHere
  refine rp_iconst (-1 : Int32) dX12_wordHere_0 (by decide) ?_
  refine rp_istore_n [(3, .int (-1 : Int32)), (0, .ref (K.2.1 + a0)), (1, .int p1), (2, .int p2)] dX12_wordHere_1 (by decide) rfl ?_
  refine rp_iconst (0 : Int32) dX12_wordHere_2 (by decide) ?_
  refine rp_istore [(4, .int (0 : Int32)), (3, .int (-1 : Int32)), (0, .ref (K.2.1 + a0)), (1, .int p1), (2, .int p2)] dX12_wordHere_3 (by decide) rfl ?_
  refine rp_as ?_
  refine rp_join 35 (fun v5 => [(3, .int v5)]) (fun _ => []) (fun v5 => ?_) (fun hX5_0 => ?_)
  · refine rp_iload_n 0 dX12_wordHere_35 rfl ?_
    exact rp_pu (rp_iret rfl dX12_wordHere_36)
  refine rp_sub [2, 3, 4, 1, 0] rfl (rp_it (fun (s1 : Int32 × Int32) => [(0, .ref (K.2.1 + a0)), (1, .int p1), (2, .int p2), (3, .int s1.1), (4, .int s1.2)]) (fun N5 ih5 s1 => ?_) FU ((-1 : Int32), (0 : Int32)))
  refine rp_iload 4 dX12_wordHere_5 rfl ?_
  refine rp_iload_n 2 dX12_wordHere_7 rfl ?_
  refine rp_icmp_ge 35 dX12_wordHere_8 (by decide) ?_ ?_
  · exact rp_sub [3] rfl (rp_puR (hX5_0 s1.1))
  · refine rp_aload_n 0 dX12_wordHere_11 rfl ?_
    refine rp_iload_n 1 dX12_wordHere_12 rfl ?_
    refine rp_iload 4 dX12_wordHere_13 rfl ?_
    refine rp_iadd dX12_wordHere_15 ?_
    refine rp_callVz [.int (p1 + s1.2)] (SX12_isWord (hn := hn) a0 (p1 + s1.2) h0) cvX12_isWord (mw (i := 1436) (by decide +kernel)) (by omega) h0 (by decide) rfl rfl rfl (Nat.le_of_ble_eq_true rfl) dX12_wordHere_16 (fun x2 => ?_)
    refine rp_as ?_
    refine rp_join 28 (fun (v3 : Int32) => [(0, .ref (K.2.1 + a0)), (1, .int p1), (2, .int p2), (4, .int s1.2)]) (fun v3 => [.int v3]) (fun v3 => ?_) (fun hJ28 => ?_)
    · refine rp_istore_n [(3, .int v3), (0, .ref (K.2.1 + a0)), (1, .int p1), (2, .int p2), (4, .int s1.2)] dX12_wordHere_28 (by decide) rfl ?_
      refine rp_iinc (fun y4 => [(4, .int y4), (3, .int v3), (0, .ref (K.2.1 + a0)), (1, .int p1), (2, .int p2)]) 4 dX12_wordHere_29 rfl (by rfl) (by decide) (fun y4 => rfl) (fun y4 => ?_)
      refine rp_goto 5 dX12_wordHere_32 (by decide) ?_
      exact rp_sub [2, 3, 4, 1, 0] rfl (ih5 (v3, y4))
    refine rp_if_eq 27 dX12_wordHere_19 (by decide) ?_ ?_
    · refine rp_iload_n 3 dX12_wordHere_27 rfl ?_
      exact rp_sub [0, 1, 2, 4] rfl (rp_pu (hJ28 s1.1))
    · refine rp_iload 4 dX12_wordHere_22 rfl ?_
      refine rp_goto 28 dX12_wordHere_24 (by decide) ?_
      exact rp_sub [0, 1, 2, 4] rfl (rp_pu (hJ28 s1.2))

theorem dX12_takeOne_0 : decode cX12_takeOne 0 = .ok (.aload_n 0, 1) := by decide +kernel
theorem dX12_takeOne_1 : decode cX12_takeOne 1 = .ok (.getfield 162, 3) := by decide +kernel
theorem dX12_takeOne_4 : decode cX12_takeOne 4 = .ok (.ifCond .le 7, 3) := by decide +kernel
theorem dX12_takeOne_7 : decode cX12_takeOne 7 = .ok (.iconst (-1), 1) := by decide +kernel
theorem dX12_takeOne_8 : decode cX12_takeOne 8 = .ok (.goto 9, 3) := by decide +kernel
theorem dX12_takeOne_11 : decode cX12_takeOne 11 = .ok (.aload_n 0, 1) := by decide +kernel
theorem dX12_takeOne_12 : decode cX12_takeOne 12 = .ok (.iload_n 1, 1) := by decide +kernel
theorem dX12_takeOne_13 : decode cX12_takeOne 13 = .ok (.iload_n 2, 1) := by decide +kernel
theorem dX12_takeOne_14 : decode cX12_takeOne 14 = .ok (.invokevirtual 184, 3) := by decide +kernel
theorem dX12_takeOne_17 : decode cX12_takeOne 17 = .ok (.istore_n 3, 1) := by decide +kernel
theorem dX12_takeOne_18 : decode cX12_takeOne 18 = .ok (.aload_n 0, 1) := by decide +kernel
theorem dX12_takeOne_19 : decode cX12_takeOne 19 = .ok (.getfield 162, 3) := by decide +kernel
theorem dX12_takeOne_22 : decode cX12_takeOne 22 = .ok (.ifCond .ne 12, 3) := by decide +kernel
theorem dX12_takeOne_25 : decode cX12_takeOne 25 = .ok (.iload_n 3, 1) := by decide +kernel
theorem dX12_takeOne_26 : decode cX12_takeOne 26 = .ok (.ifCond .ge 8, 3) := by decide +kernel
theorem dX12_takeOne_29 : decode cX12_takeOne 29 = .ok (.aload_n 0, 1) := by decide +kernel
theorem dX12_takeOne_30 : decode cX12_takeOne 30 = .ok (.iconst 1, 1) := by decide +kernel
theorem dX12_takeOne_31 : decode cX12_takeOne 31 = .ok (.invokevirtual 168, 3) := by decide +kernel
theorem dX12_takeOne_34 : decode cX12_takeOne 34 = .ok (.aload_n 0, 1) := by decide +kernel
theorem dX12_takeOne_35 : decode cX12_takeOne 35 = .ok (.dup, 1) := by decide +kernel
theorem dX12_takeOne_36 : decode cX12_takeOne 36 = .ok (.getfield 159, 3) := by decide +kernel
theorem dX12_takeOne_39 : decode cX12_takeOne 39 = .ok (.aload_n 0, 1) := by decide +kernel
theorem dX12_takeOne_40 : decode cX12_takeOne 40 = .ok (.getfield 162, 3) := by decide +kernel
theorem dX12_takeOne_43 : decode cX12_takeOne 43 = .ok (.ifCond .le 7, 3) := by decide +kernel
theorem dX12_takeOne_46 : decode cX12_takeOne 46 = .ok (.iconst 0, 1) := by decide +kernel
theorem dX12_takeOne_47 : decode cX12_takeOne 47 = .ok (.goto 4, 3) := by decide +kernel
theorem dX12_takeOne_50 : decode cX12_takeOne 50 = .ok (.iconst 1, 1) := by decide +kernel
theorem dX12_takeOne_51 : decode cX12_takeOne 51 = .ok (.iadd, 1) := by decide +kernel
theorem dX12_takeOne_52 : decode cX12_takeOne 52 = .ok (.putfield 159, 3) := by decide +kernel
theorem dX12_takeOne_55 : decode cX12_takeOne 55 = .ok (.aload_n 0, 1) := by decide +kernel
theorem dX12_takeOne_56 : decode cX12_takeOne 56 = .ok (.getfield 162, 3) := by decide +kernel
theorem dX12_takeOne_59 : decode cX12_takeOne 59 = .ok (.ifCond .le 7, 3) := by decide +kernel
theorem dX12_takeOne_62 : decode cX12_takeOne 62 = .ok (.iconst 0, 1) := by decide +kernel
theorem dX12_takeOne_63 : decode cX12_takeOne 63 = .ok (.goto 4, 3) := by decide +kernel
theorem dX12_takeOne_66 : decode cX12_takeOne 66 = .ok (.iload_n 3, 1) := by decide +kernel
theorem dX12_takeOne_67 : decode cX12_takeOne 67 = .ok (.ireturn, 1) := by decide +kernel
noncomputable def FX12_takeOne (a0 : Nat) (p1 : Int32) (p2 : Int32) : PP Int32 := bd (gI a0 8) (fun x1 => bd (if x1 ≤ 0 then bd (FX12_wordHere a0 p1 p2) (fun x2 => pu x2) else pu (-1 : Int32) : PP (Int32)) (fun (v3 : Int32) => bd (gI a0 8) (fun x4 => bd (if x4 = 0 then if 0 ≤ v3 then pu () else bd (FX12_wrong a0 (1 : Int32)) (fun (_ : Unit) => pu ()) else pu () : PP (Unit)) (fun (v6 : Unit) => bd (gI a0 7) (fun x7 => bd (gI a0 8) (fun x8 => bd (if x8 ≤ 0 then pu (1 : Int32) else pu (0 : Int32) : PP (Int32)) (fun (v9 : Int32) => bd (sI a0 7 (x7 + v9)) (fun (_ : Unit) => bd (gI a0 8) (fun x10 => bd (if x10 ≤ 0 then pu v3 else pu (0 : Int32) : PP (Int32)) (fun (v11 : Int32) => pu v11))))))))))
set_option maxHeartbeats 4000000 in
set_option maxRecDepth 100000 in
theorem SX12_takeOne {l : Launch} {K : KK} {n : Nat} {hn : 270 ≤ n} (a0 : Nat) (p1 : Int32) (p2 : Int32) (h0 : ob a0 11) : CT l K n 2 mX12_takeOne [.ref (K.2.1 + a0), .int p1, .int p2] enI (FX12_takeOne a0 p1 p2) := by
  refine CT.of2 (lv2 := [(0, .ref (K.2.1 + a0)), (1, .int p1), (2, .int p2)]) (by decide) rfl hn (Nat.le_of_ble_eq_true rfl) rfl (rp_id ?_)
  unfold FX12_takeOne
  refine rp_aload_n 0 dX12_takeOne_0 rfl ?_
  refine rp_getI fi_X12_162 h0 rfl dX12_takeOne_1 (fun x1 => ?_)
  refine rp_as ?_
  refine rp_join 17 (fun (v3 : Int32) => [(0, .ref (K.2.1 + a0))]) (fun v3 => [.int v3]) (fun v3 => ?_) (fun hJ17 => ?_)
  · refine rp_istore_n [(3, .int v3), (0, .ref (K.2.1 + a0))] dX12_takeOne_17 (by decide) rfl ?_
    refine rp_aload_n 1 dX12_takeOne_18 rfl ?_
    refine rp_getI fi_X12_162 h0 rfl dX12_takeOne_19 (fun x4 => ?_)
    refine rp_as ?_
    refine rp_join 34 (fun (v6 : Unit) => [(0, .ref (K.2.1 + a0)), (3, .int v3)]) (fun v6 => []) (fun v6 => ?_) (fun hJ34 => ?_)
    · refine rp_aload_n 0 dX12_takeOne_34 rfl ?_
      refine rp_dup dX12_takeOne_35 rfl ?_
      refine rp_getI fi_X12_159 h0 rfl dX12_takeOne_36 (fun x7 => ?_)
      refine rp_aload_n 0 dX12_takeOne_39 rfl ?_
      refine rp_getI fi_X12_162 h0 rfl dX12_takeOne_40 (fun x8 => ?_)
      refine rp_as ?_
      refine rp_join 51 (fun (v9 : Int32) => [(0, .ref (K.2.1 + a0)), (3, .int v3)]) (fun v9 => [.int v9, .int x7, .ref (K.2.1 + a0)]) (fun v9 => ?_) (fun hJ51 => ?_)
      · refine rp_iadd dX12_takeOne_51 ?_
        refine rp_putI fi_X12_159 fp_X12_7 h0 rfl dX12_takeOne_52 ?_
        refine rp_aload_n 0 dX12_takeOne_55 rfl ?_
        refine rp_getI fi_X12_162 h0 rfl dX12_takeOne_56 (fun x10 => ?_)
        refine rp_as ?_
        refine rp_join 67 (fun (v11 : Int32) => []) (fun v11 => [.int v11]) (fun v11 => ?_) (fun hJ67 => ?_)
        · exact rp_pu (rp_iret rfl dX12_takeOne_67)
        refine rp_if_le 66 dX12_takeOne_59 (by decide) ?_ ?_
        · refine rp_iload_n 1 dX12_takeOne_66 rfl ?_
          exact rp_sub [] rfl (rp_pu (hJ67 v3))
        · refine rp_iconst (0 : Int32) dX12_takeOne_62 (by decide) ?_
          refine rp_goto 67 dX12_takeOne_63 (by decide) ?_
          exact rp_sub [] rfl (rp_pu (hJ67 (0 : Int32)))
      refine rp_if_le 50 dX12_takeOne_43 (by decide) ?_ ?_
      · refine rp_iconst (1 : Int32) dX12_takeOne_50 (by decide) ?_
        exact rp_sub [0, 1] rfl (rp_pu (hJ51 (1 : Int32)))
      · refine rp_iconst (0 : Int32) dX12_takeOne_46 (by decide) ?_
        refine rp_goto 51 dX12_takeOne_47 (by decide) ?_
        exact rp_sub [0, 1] rfl (rp_pu (hJ51 (0 : Int32)))
    refine rp_if_ne 34 dX12_takeOne_22 (by decide) ?_ ?_
    · exact rp_sub [1, 0] rfl (rp_pu (hJ34 ()))
    · refine rp_iload_n 0 dX12_takeOne_25 rfl ?_
      refine rp_if_ge 34 dX12_takeOne_26 (by decide) ?_ ?_
      · exact rp_sub [1, 0] rfl (rp_pu (hJ34 ()))
      · refine rp_aload_n 1 dX12_takeOne_29 rfl ?_
        refine rp_iconst (1 : Int32) dX12_takeOne_30 (by decide) ?_
        refine rp_callVv [.int (1 : Int32)] (SX12_wrong (hn := hn) a0 (1 : Int32) h0) cvX12_wrong (mw (i := 1444) (by decide +kernel)) (by omega) h0 (by decide) rfl rfl rfl (Nat.le_of_ble_eq_true rfl) dX12_takeOne_31 (fun x5 => ?_)
        exact rp_sub [1, 0] rfl (rp_pu (hJ34 ()))
  refine rp_if_le 11 dX12_takeOne_4 (by decide) ?_ ?_
  · refine rp_aload_n 0 dX12_takeOne_11 rfl ?_
    refine rp_iload_n 1 dX12_takeOne_12 rfl ?_
    refine rp_iload_n 2 dX12_takeOne_13 rfl ?_
    refine rp_callVi [.int p1, .int p2] (SX12_wordHere (hn := hn) a0 p1 p2 h0) cvX12_wordHere (mw (i := 1452) (by decide +kernel)) (by omega) h0 (by decide) rfl rfl rfl (Nat.le_of_ble_eq_true rfl) dX12_takeOne_14 (fun x2 => ?_)
    exact rp_sub [0] rfl (rp_pu (hJ17 x2))
  · refine rp_iconst (-1 : Int32) dX12_takeOne_7 (by decide) ?_
    refine rp_goto 17 dX12_takeOne_8 (by decide) ?_
    exact rp_sub [0] rfl (rp_pu (hJ17 (-1 : Int32)))

theorem dX12_isName_0 : decode cX12_isName 0 = .ok (.aload_n 0, 1) := by decide +kernel
theorem dX12_isName_1 : decode cX12_isName 1 = .ok (.getfield 162, 3) := by decide +kernel
theorem dX12_isName_4 : decode cX12_isName 4 = .ok (.ifCond .ne 30, 3) := by decide +kernel
theorem dX12_isName_7 : decode cX12_isName 7 = .ok (.aload_n 0, 1) := by decide +kernel
theorem dX12_isName_8 : decode cX12_isName 8 = .ok (.getfield 24, 3) := by decide +kernel
theorem dX12_isName_11 : decode cX12_isName 11 = .ok (.aload_n 0, 1) := by decide +kernel
theorem dX12_isName_12 : decode cX12_isName 12 = .ok (.getfield 159, 3) := by decide +kernel
theorem dX12_isName_15 : decode cX12_isName 15 = .ok (.iaload, 1) := by decide +kernel
theorem dX12_isName_16 : decode cX12_isName 16 = .ok (.iconst 1, 1) := by decide +kernel
theorem dX12_isName_17 : decode cX12_isName 17 = .ok (.if_icmp .ne 17, 3) := by decide +kernel
theorem dX12_isName_20 : decode cX12_isName 20 = .ok (.aload_n 0, 1) := by decide +kernel
theorem dX12_isName_21 : decode cX12_isName 21 = .ok (.iconst 0, 1) := by decide +kernel
theorem dX12_isName_22 : decode cX12_isName 22 = .ok (.bipush 19, 2) := by decide +kernel
theorem dX12_isName_24 : decode cX12_isName 24 = .ok (.invokevirtual 184, 3) := by decide +kernel
theorem dX12_isName_27 : decode cX12_isName 27 = .ok (.ifCond .ge 7, 3) := by decide +kernel
theorem dX12_isName_30 : decode cX12_isName 30 = .ok (.iconst 1, 1) := by decide +kernel
theorem dX12_isName_31 : decode cX12_isName 31 = .ok (.goto 4, 3) := by decide +kernel
theorem dX12_isName_34 : decode cX12_isName 34 = .ok (.iconst 0, 1) := by decide +kernel
theorem dX12_isName_35 : decode cX12_isName 35 = .ok (.ireturn, 1) := by decide +kernel
noncomputable def FX12_isName (a0 : Nat) : PP Bool := bd (gI a0 8) (fun x1 => bd (if x1 = 0 then bd (gI a0 7) (fun x2 => bd (aI (rf a0 4) 1002 x2) (fun x3 => if x3 = (1 : Int32) then bd (FX12_wordHere a0 (0 : Int32) (19 : Int32)) (fun x4 => if 0 ≤ x4 then pu (0 : Int32) else pu (1 : Int32)) else pu (0 : Int32))) else pu (0 : Int32) : PP (Int32)) (fun (v5 : Int32) => zb v5))
set_option maxHeartbeats 4000000 in
set_option maxRecDepth 100000 in
theorem SX12_isName {l : Launch} {K : KK} {n : Nat} {hn : 270 ≤ n} (a0 : Nat) (h0 : ob a0 11) : CT l K n 2 mX12_isName [.ref (K.2.1 + a0)] enZ (FX12_isName a0) := by
  refine CT.of2 (lv2 := [(0, .ref (K.2.1 + a0))]) (by decide) rfl hn (Nat.le_of_ble_eq_true rfl) rfl (rp_id ?_)
  unfold FX12_isName
  refine rp_aload_n 0 dX12_isName_0 rfl ?_
  refine rp_getI fi_X12_162 h0 rfl dX12_isName_1 (fun x1 => ?_)
  refine rp_as ?_
  refine rp_join 35 (fun (v5 : Int32) => []) (fun v5 => [.int v5]) (fun v5 => ?_) (fun hJ35 => ?_)
  · exact rp_zretb rfl dX12_isName_35
  refine rp_if_ne 34 dX12_isName_4 (by decide) ?_ ?_
  · refine rp_iconst (0 : Int32) dX12_isName_34 (by decide) ?_
    exact rp_sub [] rfl (rp_pu (hJ35 (0 : Int32)))
  · refine rp_aload_n 0 dX12_isName_7 rfl ?_
    refine rp_getR fi_X12_24 h0 rfl dX12_isName_8 ?_
    refine rp_aload_n 0 dX12_isName_11 rfl ?_
    refine rp_getI fi_X12_159 h0 rfl dX12_isName_12 (fun x2 => ?_)
    refine rp_iald (tX12_4 h0) dX12_isName_15 (fun x3 => ?_)
    refine rp_iconst (1 : Int32) dX12_isName_16 (by decide) ?_
    refine rp_icmp_ne 34 dX12_isName_17 (by decide) ?_ ?_
    · refine rp_iconst (0 : Int32) dX12_isName_34 (by decide) ?_
      exact rp_sub [] rfl (rp_pu (hJ35 (0 : Int32)))
    · refine rp_aload_n 0 dX12_isName_20 rfl ?_
      refine rp_iconst (0 : Int32) dX12_isName_21 (by decide) ?_
      refine rp_bipush (19 : Int32) dX12_isName_22 (by decide) ?_
      refine rp_callVi [.int (0 : Int32), .int (19 : Int32)] (SX12_wordHere (hn := hn) a0 (0 : Int32) (19 : Int32) h0) cvX12_wordHere (mw (i := 1452) (by decide +kernel)) (by omega) h0 (by decide) rfl rfl rfl (Nat.le_of_ble_eq_true rfl) dX12_isName_24 (fun x4 => ?_)
      refine rp_if_ge 34 dX12_isName_27 (by decide) ?_ ?_
      · refine rp_iconst (0 : Int32) dX12_isName_34 (by decide) ?_
        exact rp_sub [] rfl (rp_pu (hJ35 (0 : Int32)))
      · refine rp_iconst (1 : Int32) dX12_isName_30 (by decide) ?_
        refine rp_goto 35 dX12_isName_31 (by decide) ?_
        exact rp_sub [] rfl (rp_pu (hJ35 (1 : Int32)))

theorem dX12_nameAt_0 : decode cX12_nameAt 0 = .ok (.iconst 0, 1) := by decide +kernel
theorem dX12_nameAt_1 : decode cX12_nameAt 1 = .ok (.istore_n 2, 1) := by decide +kernel
theorem dX12_nameAt_2 : decode cX12_nameAt 2 = .ok (.iload_n 2, 1) := by decide +kernel
theorem dX12_nameAt_3 : decode cX12_nameAt 3 = .ok (.iload_n 1, 1) := by decide +kernel
theorem dX12_nameAt_4 : decode cX12_nameAt 4 = .ok (.ifCond .eq 10, 3) := by decide +kernel
theorem dX12_nameAt_7 : decode cX12_nameAt 7 = .ok (.aload_n 0, 1) := by decide +kernel
theorem dX12_nameAt_8 : decode cX12_nameAt 8 = .ok (.getfield 187, 3) := by decide +kernel
theorem dX12_nameAt_11 : decode cX12_nameAt 11 = .ok (.goto 7, 3) := by decide +kernel
theorem dX12_nameAt_14 : decode cX12_nameAt 14 = .ok (.aload_n 0, 1) := by decide +kernel
theorem dX12_nameAt_15 : decode cX12_nameAt 15 = .ok (.getfield 190, 3) := by decide +kernel
theorem dX12_nameAt_18 : decode cX12_nameAt 18 = .ok (.if_icmp .ge 61, 3) := by decide +kernel
theorem dX12_nameAt_21 : decode cX12_nameAt 21 = .ok (.iload_n 1, 1) := by decide +kernel
theorem dX12_nameAt_22 : decode cX12_nameAt 22 = .ok (.ifCond .eq 12, 3) := by decide +kernel
theorem dX12_nameAt_25 : decode cX12_nameAt 25 = .ok (.aload_n 0, 1) := by decide +kernel
theorem dX12_nameAt_26 : decode cX12_nameAt 26 = .ok (.getfield 95, 3) := by decide +kernel
theorem dX12_nameAt_29 : decode cX12_nameAt 29 = .ok (.iload_n 2, 1) := by decide +kernel
theorem dX12_nameAt_30 : decode cX12_nameAt 30 = .ok (.laload, 1) := by decide +kernel
theorem dX12_nameAt_31 : decode cX12_nameAt 31 = .ok (.goto 9, 3) := by decide +kernel
theorem dX12_nameAt_34 : decode cX12_nameAt 34 = .ok (.aload_n 0, 1) := by decide +kernel
theorem dX12_nameAt_35 : decode cX12_nameAt 35 = .ok (.getfield 92, 3) := by decide +kernel
theorem dX12_nameAt_38 : decode cX12_nameAt 38 = .ok (.iload_n 2, 1) := by decide +kernel
theorem dX12_nameAt_39 : decode cX12_nameAt 39 = .ok (.laload, 1) := by decide +kernel
theorem dX12_nameAt_40 : decode cX12_nameAt 40 = .ok (.aload_n 0, 1) := by decide +kernel
theorem dX12_nameAt_41 : decode cX12_nameAt 41 = .ok (.getfield 30, 3) := by decide +kernel
theorem dX12_nameAt_44 : decode cX12_nameAt 44 = .ok (.aload_n 0, 1) := by decide +kernel
theorem dX12_nameAt_45 : decode cX12_nameAt 45 = .ok (.getfield 159, 3) := by decide +kernel
theorem dX12_nameAt_48 : decode cX12_nameAt 48 = .ok (.laload, 1) := by decide +kernel
theorem dX12_nameAt_49 : decode cX12_nameAt 49 = .ok (.lcmp, 1) := by decide +kernel
theorem dX12_nameAt_50 : decode cX12_nameAt 50 = .ok (.ifCond .ne 23, 3) := by decide +kernel
theorem dX12_nameAt_53 : decode cX12_nameAt 53 = .ok (.iload_n 1, 1) := by decide +kernel
theorem dX12_nameAt_54 : decode cX12_nameAt 54 = .ok (.ifCond .eq 12, 3) := by decide +kernel
theorem dX12_nameAt_57 : decode cX12_nameAt 57 = .ok (.aload_n 0, 1) := by decide +kernel
theorem dX12_nameAt_58 : decode cX12_nameAt 58 = .ok (.getfield 101, 3) := by decide +kernel
theorem dX12_nameAt_61 : decode cX12_nameAt 61 = .ok (.iload_n 2, 1) := by decide +kernel
theorem dX12_nameAt_62 : decode cX12_nameAt 62 = .ok (.iaload, 1) := by decide +kernel
theorem dX12_nameAt_63 : decode cX12_nameAt 63 = .ok (.goto 9, 3) := by decide +kernel
theorem dX12_nameAt_66 : decode cX12_nameAt 66 = .ok (.aload_n 0, 1) := by decide +kernel
theorem dX12_nameAt_67 : decode cX12_nameAt 67 = .ok (.getfield 98, 3) := by decide +kernel
theorem dX12_nameAt_70 : decode cX12_nameAt 70 = .ok (.iload_n 2, 1) := by decide +kernel
theorem dX12_nameAt_71 : decode cX12_nameAt 71 = .ok (.iaload, 1) := by decide +kernel
theorem dX12_nameAt_72 : decode cX12_nameAt 72 = .ok (.ireturn, 1) := by decide +kernel
theorem dX12_nameAt_73 : decode cX12_nameAt 73 = .ok (.iinc 2 1, 3) := by decide +kernel
theorem dX12_nameAt_76 : decode cX12_nameAt 76 = .ok (.goto (-74), 3) := by decide +kernel
theorem dX12_nameAt_79 : decode cX12_nameAt 79 = .ok (.iconst (-1), 1) := by decide +kernel
theorem dX12_nameAt_80 : decode cX12_nameAt 80 = .ok (.ireturn, 1) := by decide +kernel
noncomputable def FX12_nameAt (a0 : Nat) (p1 : Int32) : PP Int32 := bd (it (fun (s1 : Int32) => (bd (if p1 = 0 then bd (gI a0 18) (fun x2 => pu x2) else bd (gI a0 19) (fun x3 => pu x3) : PP (Int32)) (fun (v4 : Int32) => if v4 ≤ s1 then pu (Sum.inr (Sum.inl ())) else bd (if p1 = 0 then bd (aL (rf a0 14) 15 s1) (fun x5 => pu x5) else bd (aL (rf a0 15) 15 s1) (fun x6 => pu x6) : PP (Int64)) (fun (v7 : Int64) => bd (gI a0 7) (fun x8 => bd (aL (rf a0 6) 1002 x8) (fun x9 => if (lg_cmp v7 x9) = 0 then pu (Sum.inr (Sum.inr (s1))) else lt (s1 + (1 : Int32)) (fun y10 => pu (Sum.inl y10)))))) : PP ((Int32) ⊕ ((Unit) ⊕ (Int32))))) FU (0 : Int32)) (Sum.elim (fun (v11 : Unit) => pu (-1 : Int32)) (fun (v12 : Int32) => bd (if p1 = 0 then bd (aI (rf a0 16) 15 v12) (fun x13 => pu x13) else bd (aI (rf a0 17) 15 v12) (fun x14 => pu x14) : PP (Int32)) (fun (v15 : Int32) => pu v15)))
set_option maxHeartbeats 4000000 in
set_option maxRecDepth 100000 in
theorem SX12_nameAt {l : Launch} {K : KK} {n : Nat} {hn : 270 ≤ n} (a0 : Nat) (p1 : Int32) (h0 : ob a0 11) : CT l K n 0 mX12_nameAt [.ref (K.2.1 + a0), .int p1] enI (FX12_nameAt a0 p1) := by
  refine CT.of2 (lv2 := [(0, .ref (K.2.1 + a0)), (1, .int p1)]) (by decide) rfl hn (Nat.le_of_ble_eq_true rfl) rfl (rp_id ?_)
  unfold FX12_nameAt
  refine rp_iconst (0 : Int32) dX12_nameAt_0 (by decide) ?_
  refine rp_istore_n [(2, .int (0 : Int32)), (0, .ref (K.2.1 + a0)), (1, .int p1)] dX12_nameAt_1 (by decide) rfl ?_
  refine rp_as ?_
  refine rp_join2 79 (fun v11 => []) (fun _ => []) 53 (fun v12 => [(0, .ref (K.2.1 + a0)), (1, .int p1), (2, .int v12)]) (fun _ => []) (fun v11 => ?_) (fun v12 => ?_) (fun hX2_0 hX2_1 => ?_)
  · refine rp_iconst (-1 : Int32) dX12_nameAt_79 (by decide) ?_
    exact rp_pu (rp_iret rfl dX12_nameAt_80)
  · refine rp_iload_n 1 dX12_nameAt_53 rfl ?_
    refine rp_as ?_
    refine rp_join 72 (fun (v15 : Int32) => []) (fun v15 => [.int v15]) (fun v15 => ?_) (fun hJ72 => ?_)
    · exact rp_pu (rp_iret rfl dX12_nameAt_72)
    refine rp_if_eq 66 dX12_nameAt_54 (by decide) ?_ ?_
    · refine rp_aload_n 0 dX12_nameAt_66 rfl ?_
      refine rp_getR fi_X12_98 h0 rfl dX12_nameAt_67 ?_
      refine rp_iload_n 2 dX12_nameAt_70 rfl ?_
      refine rp_iald (tX12_16 h0) dX12_nameAt_71 (fun x13 => ?_)
      exact rp_sub [] rfl (rp_pu (hJ72 x13))
    · refine rp_aload_n 0 dX12_nameAt_57 rfl ?_
      refine rp_getR fi_X12_101 h0 rfl dX12_nameAt_58 ?_
      refine rp_iload_n 2 dX12_nameAt_61 rfl ?_
      refine rp_iald (tX12_17 h0) dX12_nameAt_62 (fun x14 => ?_)
      refine rp_goto 72 dX12_nameAt_63 (by decide) ?_
      exact rp_sub [] rfl (rp_pu (hJ72 x14))
  refine rp_sub [1, 2, 0] rfl (rp_it (fun (s1 : Int32) => [(0, .ref (K.2.1 + a0)), (1, .int p1), (2, .int s1)]) (fun N2 ih2 s1 => ?_) FU (0 : Int32))
  refine rp_iload_n 2 dX12_nameAt_2 rfl ?_
  refine rp_iload_n 1 dX12_nameAt_3 rfl ?_
  refine rp_as ?_
  refine rp_join 18 (fun (v4 : Int32) => [(0, .ref (K.2.1 + a0)), (1, .int p1), (2, .int s1)]) (fun v4 => [.int v4, .int s1]) (fun v4 => ?_) (fun hJ18 => ?_)
  · refine rp_icmp_ge 79 dX12_nameAt_18 (by decide) ?_ ?_
    · exact rp_sub [] rfl (rp_puRL (hX2_0 ()))
    · refine rp_iload_n 1 dX12_nameAt_21 rfl ?_
      refine rp_as ?_
      refine rp_join 40 (fun (v7 : Int64) => [(0, .ref (K.2.1 + a0)), (1, .int p1), (2, .int s1)]) (fun v7 => [.long v7]) (fun v7 => ?_) (fun hJ40 => ?_)
      · refine rp_aload_n 0 dX12_nameAt_40 rfl ?_
        refine rp_getR fi_X12_30 h0 rfl dX12_nameAt_41 ?_
        refine rp_aload_n 0 dX12_nameAt_44 rfl ?_
        refine rp_getI fi_X12_159 h0 rfl dX12_nameAt_45 (fun x8 => ?_)
        refine rp_lald (tX12_6 h0) dX12_nameAt_48 (fun x9 => ?_)
        refine rp_lcmp dX12_nameAt_49 ?_
        refine rp_if_ne 73 dX12_nameAt_50 (by decide) ?_ ?_
        · refine rp_iinc (fun y10 => [(2, .int y10), (0, .ref (K.2.1 + a0)), (1, .int p1)]) 2 dX12_nameAt_73 rfl (by rfl) (by decide) (fun y10 => rfl) (fun y10 => ?_)
          refine rp_goto 2 dX12_nameAt_76 (by decide) ?_
          exact rp_sub [1, 2, 0] rfl (ih2 y10)
        · exact rp_sub [0, 1, 2] rfl (rp_puRR (hX2_1 s1))
      refine rp_if_eq 34 dX12_nameAt_22 (by decide) ?_ ?_
      · refine rp_aload_n 0 dX12_nameAt_34 rfl ?_
        refine rp_getR fi_X12_92 h0 rfl dX12_nameAt_35 ?_
        refine rp_iload_n 2 dX12_nameAt_38 rfl ?_
        refine rp_lald (tX12_14 h0) dX12_nameAt_39 (fun x5 => ?_)
        exact rp_sub [0, 1, 2] rfl (rp_pu (hJ40 x5))
      · refine rp_aload_n 0 dX12_nameAt_25 rfl ?_
        refine rp_getR fi_X12_95 h0 rfl dX12_nameAt_26 ?_
        refine rp_iload_n 2 dX12_nameAt_29 rfl ?_
        refine rp_lald (tX12_15 h0) dX12_nameAt_30 (fun x6 => ?_)
        refine rp_goto 40 dX12_nameAt_31 (by decide) ?_
        exact rp_sub [0, 1, 2] rfl (rp_pu (hJ40 x6))
  refine rp_if_eq 14 dX12_nameAt_4 (by decide) ?_ ?_
  · refine rp_aload_n 0 dX12_nameAt_14 rfl ?_
    refine rp_getI fi_X12_190 h0 rfl dX12_nameAt_15 (fun x2 => ?_)
    exact rp_sub [0, 1, 2] rfl (rp_pu (hJ18 x2))
  · refine rp_aload_n 0 dX12_nameAt_7 rfl ?_
    refine rp_getI fi_X12_187 h0 rfl dX12_nameAt_8 (fun x3 => ?_)
    refine rp_goto 18 dX12_nameAt_11 (by decide) ?_
    exact rp_sub [0, 1, 2] rfl (rp_pu (hJ18 x3))
