noncomputable def TL_15 (chk : PP Unit) (q : Nat → Int32) : PP Unit := bd (FX11_want 0 ((q 1)) ((q 2))) (fun x31 => bd (FX12_want 249 ((q 1)) ((q 2))) (fun x32 => if ((b2i x31)) = ((b2i x32)) then chk else fl))
set_option maxHeartbeats 4000000 in
set_option maxRecDepth 100000 in
theorem LC_15 {l : Launch} {K : KK} {n : Nat} {chk : PP Unit} {zc zs b L : Nat} {xs : Nat → Int32} {x4 : Int32} {q : Nat → Int32} (hn : 270 ≤ n) (hE : RP l K n 200 mL_law (ZX K b L xs zc zs) 1290 [(0, .ref b), (1, .ref (K.2.1 + 0)), (2, .ref (K.2.1 + 249)), (3, .ref (K.2.1 + 270)), (4, .int x4)] [] enU (bd chk pu)) (hq : ∀ c, c < 7 → vp_in (x4 + Int32.ofNat c) L) (hv : ∀ c, c < 7 → xs (x4 + Int32.ofNat c).toNatClampNeg = q c) : RP l K n 200 mL_law (ZX K b L xs zc zs) 709 [(0, .ref b), (1, .ref (K.2.1 + 0)), (2, .ref (K.2.1 + 249)), (3, .ref (K.2.1 + 270)), (4, .int x4)] [] enU (TL_15 chk q) := by
  refine rp_id ?_
  unfold TL_15
  refine rp_aload_n 1 dL_law_709 rfl ?_
  refine rp_aload_n 0 dL_law_710 rfl ?_
  refine rp_iload 4 dL_law_711 rfl ?_
  refine rp_iconst (1 : Int32) dL_law_713 (by decide) ?_
  refine rp_iadd dL_law_714 ?_
  refine rp_sld (hq 1 (by decide)) (hv 1 (by decide)) dL_law_715 ?_
  refine rp_aload_n 0 dL_law_716 rfl ?_
  refine rp_iload 4 dL_law_717 rfl ?_
  refine rp_iconst (2 : Int32) dL_law_719 (by decide) ?_
  refine rp_iadd dL_law_720 ?_
  refine rp_sld (hq 2 (by decide)) (hv 2 (by decide)) dL_law_721 ?_
  refine rp_callVz [.int ((q 1)), .int ((q 2))] (SX11_want (hn := hn) 0 ((q 1)) ((q 2)) o0) cvX11_want (mw (i := 1010) (by decide +kernel)) (by omega) o0 (by decide) rfl rfl rfl (Nat.le_of_ble_eq_true rfl) dL_law_722 (fun x31 => ?_)
  refine rp_aload_n 2 dL_law_725 rfl ?_
  refine rp_aload_n 0 dL_law_726 rfl ?_
  refine rp_iload 4 dL_law_727 rfl ?_
  refine rp_iconst (1 : Int32) dL_law_729 (by decide) ?_
  refine rp_iadd dL_law_730 ?_
  refine rp_sld (hq 1 (by decide)) (hv 1 (by decide)) dL_law_731 ?_
  refine rp_aload_n 0 dL_law_732 rfl ?_
  refine rp_iload 4 dL_law_733 rfl ?_
  refine rp_iconst (2 : Int32) dL_law_735 (by decide) ?_
  refine rp_iadd dL_law_736 ?_
  refine rp_sld (hq 2 (by decide)) (hv 2 (by decide)) dL_law_737 ?_
  refine rp_callVz [.int ((q 1)), .int ((q 2))] (SX12_want (hn := hn) 249 ((q 1)) ((q 2)) o249) cvX12_want (mw (i := 1702) (by decide +kernel)) (by omega) o249 (by decide) rfl rfl rfl (Nat.le_of_ble_eq_true rfl) dL_law_738 (fun x32 => ?_)
  refine rp_icmp_eq 1290 dL_law_741 (by decide) ?_ ?_
  · exact rp_sub [0, 1, 2, 3, 4] rfl hE
  · exact rp_fl
noncomputable def TL_16 (chk : PP Unit) (q : Nat → Int32) : PP Unit := bd (FX11_wish 0 ((q 1))) (fun x33 => bd (FX12_wish 249 ((q 1))) (fun x34 => if x33 = x34 then chk else fl))
set_option maxHeartbeats 4000000 in
set_option maxRecDepth 100000 in
theorem LC_16 {l : Launch} {K : KK} {n : Nat} {chk : PP Unit} {zc zs b L : Nat} {xs : Nat → Int32} {x4 : Int32} {q : Nat → Int32} (hn : 270 ≤ n) (hE : RP l K n 200 mL_law (ZX K b L xs zc zs) 1290 [(0, .ref b), (1, .ref (K.2.1 + 0)), (2, .ref (K.2.1 + 249)), (3, .ref (K.2.1 + 270)), (4, .int x4)] [] enU (bd chk pu)) (hq : ∀ c, c < 7 → vp_in (x4 + Int32.ofNat c) L) (hv : ∀ c, c < 7 → xs (x4 + Int32.ofNat c).toNatClampNeg = q c) : RP l K n 200 mL_law (ZX K b L xs zc zs) 746 [(0, .ref b), (1, .ref (K.2.1 + 0)), (2, .ref (K.2.1 + 249)), (3, .ref (K.2.1 + 270)), (4, .int x4)] [] enU (TL_16 chk q) := by
  refine rp_id ?_
  unfold TL_16
  refine rp_aload_n 1 dL_law_746 rfl ?_
  refine rp_aload_n 0 dL_law_747 rfl ?_
  refine rp_iload 4 dL_law_748 rfl ?_
  refine rp_iconst (1 : Int32) dL_law_750 (by decide) ?_
  refine rp_iadd dL_law_751 ?_
  refine rp_sld (hq 1 (by decide)) (hv 1 (by decide)) dL_law_752 ?_
  refine rp_callVi [.int ((q 1))] (SX11_wish (hn := hn) 0 ((q 1)) o0) cvX11_wish (mw (i := 1017) (by decide +kernel)) (by omega) o0 (by decide) rfl rfl rfl (Nat.le_of_ble_eq_true rfl) dL_law_753 (fun x33 => ?_)
  refine rp_aload_n 2 dL_law_756 rfl ?_
  refine rp_aload_n 0 dL_law_757 rfl ?_
  refine rp_iload 4 dL_law_758 rfl ?_
  refine rp_iconst (1 : Int32) dL_law_760 (by decide) ?_
  refine rp_iadd dL_law_761 ?_
  refine rp_sld (hq 1 (by decide)) (hv 1 (by decide)) dL_law_762 ?_
  refine rp_callVi [.int ((q 1))] (SX12_wish (hn := hn) 249 ((q 1)) o249) cvX12_wish (mw (i := 1706) (by decide +kernel)) (by omega) o249 (by decide) rfl rfl rfl (Nat.le_of_ble_eq_true rfl) dL_law_763 (fun x34 => ?_)
  refine rp_icmp_eq 1290 dL_law_766 (by decide) ?_ ?_
  · exact rp_sub [0, 1, 2, 3, 4] rfl hE
  · exact rp_fl
noncomputable def TL_17 (chk : PP Unit) (q : Nat → Int32) : PP Unit := bd (FX11_lift 0 ((q 1)) ((q 2))) (fun x35 => bd (FX12_lift 249 ((q 1)) ((q 2))) (fun x36 => if x35 = x36 then chk else fl))
set_option maxHeartbeats 4000000 in
set_option maxRecDepth 100000 in
theorem LC_17 {l : Launch} {K : KK} {n : Nat} {chk : PP Unit} {zc zs b L : Nat} {xs : Nat → Int32} {x4 : Int32} {q : Nat → Int32} (hn : 270 ≤ n) (hE : RP l K n 200 mL_law (ZX K b L xs zc zs) 1290 [(0, .ref b), (1, .ref (K.2.1 + 0)), (2, .ref (K.2.1 + 249)), (3, .ref (K.2.1 + 270)), (4, .int x4)] [] enU (bd chk pu)) (hq : ∀ c, c < 7 → vp_in (x4 + Int32.ofNat c) L) (hv : ∀ c, c < 7 → xs (x4 + Int32.ofNat c).toNatClampNeg = q c) : RP l K n 200 mL_law (ZX K b L xs zc zs) 771 [(0, .ref b), (1, .ref (K.2.1 + 0)), (2, .ref (K.2.1 + 249)), (3, .ref (K.2.1 + 270)), (4, .int x4)] [] enU (TL_17 chk q) := by
  refine rp_id ?_
  unfold TL_17
  refine rp_aload_n 1 dL_law_771 rfl ?_
  refine rp_aload_n 0 dL_law_772 rfl ?_
  refine rp_iload 4 dL_law_773 rfl ?_
  refine rp_iconst (1 : Int32) dL_law_775 (by decide) ?_
  refine rp_iadd dL_law_776 ?_
  refine rp_sld (hq 1 (by decide)) (hv 1 (by decide)) dL_law_777 ?_
  refine rp_aload_n 0 dL_law_778 rfl ?_
  refine rp_iload 4 dL_law_779 rfl ?_
  refine rp_iconst (2 : Int32) dL_law_781 (by decide) ?_
  refine rp_iadd dL_law_782 ?_
  refine rp_sld (hq 2 (by decide)) (hv 2 (by decide)) dL_law_783 ?_
  refine rp_callVi [.int ((q 1)), .int ((q 2))] (SX11_lift (hn := hn) 0 ((q 1)) ((q 2)) o0) cvX11_lift (mw (i := 1062) (by decide +kernel)) (by omega) o0 (by decide) rfl rfl rfl (Nat.le_of_ble_eq_true rfl) dL_law_784 (fun x35 => ?_)
  refine rp_aload_n 2 dL_law_787 rfl ?_
  refine rp_aload_n 0 dL_law_788 rfl ?_
  refine rp_iload 4 dL_law_789 rfl ?_
  refine rp_iconst (1 : Int32) dL_law_791 (by decide) ?_
  refine rp_iadd dL_law_792 ?_
  refine rp_sld (hq 1 (by decide)) (hv 1 (by decide)) dL_law_793 ?_
  refine rp_aload_n 0 dL_law_794 rfl ?_
  refine rp_iload 4 dL_law_795 rfl ?_
  refine rp_iconst (2 : Int32) dL_law_797 (by decide) ?_
  refine rp_iadd dL_law_798 ?_
  refine rp_sld (hq 2 (by decide)) (hv 2 (by decide)) dL_law_799 ?_
  refine rp_callVi [.int ((q 1)), .int ((q 2))] (SX12_lift (hn := hn) 249 ((q 1)) ((q 2)) o249) cvX12_lift (mw (i := 1718) (by decide +kernel)) (by omega) o249 (by decide) rfl rfl rfl (Nat.le_of_ble_eq_true rfl) dL_law_800 (fun x36 => ?_)
  refine rp_icmp_eq 1290 dL_law_803 (by decide) ?_ ?_
  · exact rp_sub [0, 1, 2, 3, 4] rfl hE
  · exact rp_fl
noncomputable def TL_18 (chk : PP Unit) (q : Nat → Int32) : PP Unit := bd (FX11_tell 0 ((q 1)) ((q 2)) ((q 3))) (fun x37 => bd (FX12_tell 249 ((q 1)) ((q 2)) ((q 3))) (fun x38 => if ((b2i x37)) = ((b2i x38)) then chk else fl))
set_option maxHeartbeats 4000000 in
set_option maxRecDepth 100000 in
theorem LC_18 {l : Launch} {K : KK} {n : Nat} {chk : PP Unit} {zc zs b L : Nat} {xs : Nat → Int32} {x4 : Int32} {q : Nat → Int32} (hn : 270 ≤ n) (hE : RP l K n 200 mL_law (ZX K b L xs zc zs) 1290 [(0, .ref b), (1, .ref (K.2.1 + 0)), (2, .ref (K.2.1 + 249)), (3, .ref (K.2.1 + 270)), (4, .int x4)] [] enU (bd chk pu)) (hq : ∀ c, c < 7 → vp_in (x4 + Int32.ofNat c) L) (hv : ∀ c, c < 7 → xs (x4 + Int32.ofNat c).toNatClampNeg = q c) : RP l K n 200 mL_law (ZX K b L xs zc zs) 808 [(0, .ref b), (1, .ref (K.2.1 + 0)), (2, .ref (K.2.1 + 249)), (3, .ref (K.2.1 + 270)), (4, .int x4)] [] enU (TL_18 chk q) := by
  refine rp_id ?_
  unfold TL_18
  refine rp_aload_n 1 dL_law_808 rfl ?_
  refine rp_aload_n 0 dL_law_809 rfl ?_
  refine rp_iload 4 dL_law_810 rfl ?_
  refine rp_iconst (1 : Int32) dL_law_812 (by decide) ?_
  refine rp_iadd dL_law_813 ?_
  refine rp_sld (hq 1 (by decide)) (hv 1 (by decide)) dL_law_814 ?_
  refine rp_aload_n 0 dL_law_815 rfl ?_
  refine rp_iload 4 dL_law_816 rfl ?_
  refine rp_iconst (2 : Int32) dL_law_818 (by decide) ?_
  refine rp_iadd dL_law_819 ?_
  refine rp_sld (hq 2 (by decide)) (hv 2 (by decide)) dL_law_820 ?_
  refine rp_aload_n 0 dL_law_821 rfl ?_
  refine rp_iload 4 dL_law_822 rfl ?_
  refine rp_iconst (3 : Int32) dL_law_824 (by decide) ?_
  refine rp_iadd dL_law_825 ?_
  refine rp_sld (hq 3 (by decide)) (hv 3 (by decide)) dL_law_826 ?_
  refine rp_callVz [.int ((q 1)), .int ((q 2)), .int ((q 3))] (SX11_tell (hn := hn) 0 ((q 1)) ((q 2)) ((q 3)) o0) cvX11_tell (mw (i := 1066) (by decide +kernel)) (by omega) o0 (by decide) rfl rfl rfl (Nat.le_of_ble_eq_true rfl) dL_law_827 (fun x37 => ?_)
  refine rp_aload_n 2 dL_law_830 rfl ?_
  refine rp_aload_n 0 dL_law_831 rfl ?_
  refine rp_iload 4 dL_law_832 rfl ?_
  refine rp_iconst (1 : Int32) dL_law_834 (by decide) ?_
  refine rp_iadd dL_law_835 ?_
  refine rp_sld (hq 1 (by decide)) (hv 1 (by decide)) dL_law_836 ?_
  refine rp_aload_n 0 dL_law_837 rfl ?_
  refine rp_iload 4 dL_law_838 rfl ?_
  refine rp_iconst (2 : Int32) dL_law_840 (by decide) ?_
  refine rp_iadd dL_law_841 ?_
  refine rp_sld (hq 2 (by decide)) (hv 2 (by decide)) dL_law_842 ?_
  refine rp_aload_n 0 dL_law_843 rfl ?_
  refine rp_iload 4 dL_law_844 rfl ?_
  refine rp_iconst (3 : Int32) dL_law_846 (by decide) ?_
  refine rp_iadd dL_law_847 ?_
  refine rp_sld (hq 3 (by decide)) (hv 3 (by decide)) dL_law_848 ?_
  refine rp_callVz [.int ((q 1)), .int ((q 2)), .int ((q 3))] (SX12_tell (hn := hn) 249 ((q 1)) ((q 2)) ((q 3)) o249) cvX12_tell (mw (i := 1729) (by decide +kernel)) (by omega) o249 (by decide) rfl rfl rfl (Nat.le_of_ble_eq_true rfl) dL_law_849 (fun x38 => ?_)
  refine rp_icmp_eq 1290 dL_law_852 (by decide) ?_ ?_
  · exact rp_sub [0, 1, 2, 3, 4] rfl hE
  · exact rp_fl
noncomputable def TL_19 (chk : PP Unit) (q : Nat → Int32) : PP Unit := bd (FX11_pairs 0 ((q 1))) (fun x39 => bd (FX12_pairs 249 ((q 1))) (fun x40 => if x39 = x40 then chk else fl))
set_option maxHeartbeats 4000000 in
set_option maxRecDepth 100000 in
theorem LC_19 {l : Launch} {K : KK} {n : Nat} {chk : PP Unit} {zc zs b L : Nat} {xs : Nat → Int32} {x4 : Int32} {q : Nat → Int32} (hn : 270 ≤ n) (hE : RP l K n 200 mL_law (ZX K b L xs zc zs) 1290 [(0, .ref b), (1, .ref (K.2.1 + 0)), (2, .ref (K.2.1 + 249)), (3, .ref (K.2.1 + 270)), (4, .int x4)] [] enU (bd chk pu)) (hq : ∀ c, c < 7 → vp_in (x4 + Int32.ofNat c) L) (hv : ∀ c, c < 7 → xs (x4 + Int32.ofNat c).toNatClampNeg = q c) : RP l K n 200 mL_law (ZX K b L xs zc zs) 857 [(0, .ref b), (1, .ref (K.2.1 + 0)), (2, .ref (K.2.1 + 249)), (3, .ref (K.2.1 + 270)), (4, .int x4)] [] enU (TL_19 chk q) := by
  refine rp_id ?_
  unfold TL_19
  refine rp_aload_n 1 dL_law_857 rfl ?_
  refine rp_aload_n 0 dL_law_858 rfl ?_
  refine rp_iload 4 dL_law_859 rfl ?_
  refine rp_iconst (1 : Int32) dL_law_861 (by decide) ?_
  refine rp_iadd dL_law_862 ?_
  refine rp_sld (hq 1 (by decide)) (hv 1 (by decide)) dL_law_863 ?_
  refine rp_callVi [.int ((q 1))] (SX11_pairs (hn := hn) 0 ((q 1)) o0) cvX11_pairs (mw (i := 1074) (by decide +kernel)) (by omega) o0 (by decide) rfl rfl rfl (Nat.le_of_ble_eq_true rfl) dL_law_864 (fun x39 => ?_)
  refine rp_aload_n 2 dL_law_867 rfl ?_
  refine rp_aload_n 0 dL_law_868 rfl ?_
  refine rp_iload 4 dL_law_869 rfl ?_
  refine rp_iconst (1 : Int32) dL_law_871 (by decide) ?_
  refine rp_iadd dL_law_872 ?_
  refine rp_sld (hq 1 (by decide)) (hv 1 (by decide)) dL_law_873 ?_
  refine rp_callVi [.int ((q 1))] (SX12_pairs (hn := hn) 249 ((q 1)) o249) cvX12_pairs (mw (i := 1733) (by decide +kernel)) (by omega) o249 (by decide) rfl rfl rfl (Nat.le_of_ble_eq_true rfl) dL_law_874 (fun x40 => ?_)
  refine rp_icmp_eq 1290 dL_law_877 (by decide) ?_ ?_
  · exact rp_sub [0, 1, 2, 3, 4] rfl hE
  · exact rp_fl
noncomputable def TL_20 (chk : PP Unit) (q : Nat → Int32) : PP Unit := bd (FX11_look 0 ((q 1))) (fun x41 => bd (FX12_look 249 ((q 1))) (fun x42 => if x41 = x42 then chk else fl))
set_option maxHeartbeats 4000000 in
set_option maxRecDepth 100000 in
theorem LC_20 {l : Launch} {K : KK} {n : Nat} {chk : PP Unit} {zc zs b L : Nat} {xs : Nat → Int32} {x4 : Int32} {q : Nat → Int32} (hn : 270 ≤ n) (hE : RP l K n 200 mL_law (ZX K b L xs zc zs) 1290 [(0, .ref b), (1, .ref (K.2.1 + 0)), (2, .ref (K.2.1 + 249)), (3, .ref (K.2.1 + 270)), (4, .int x4)] [] enU (bd chk pu)) (hq : ∀ c, c < 7 → vp_in (x4 + Int32.ofNat c) L) (hv : ∀ c, c < 7 → xs (x4 + Int32.ofNat c).toNatClampNeg = q c) : RP l K n 200 mL_law (ZX K b L xs zc zs) 882 [(0, .ref b), (1, .ref (K.2.1 + 0)), (2, .ref (K.2.1 + 249)), (3, .ref (K.2.1 + 270)), (4, .int x4)] [] enU (TL_20 chk q) := by
  refine rp_id ?_
  unfold TL_20
  refine rp_aload_n 1 dL_law_882 rfl ?_
  refine rp_aload_n 0 dL_law_883 rfl ?_
  refine rp_iload 4 dL_law_884 rfl ?_
  refine rp_iconst (1 : Int32) dL_law_886 (by decide) ?_
  refine rp_iadd dL_law_887 ?_
  refine rp_sld (hq 1 (by decide)) (hv 1 (by decide)) dL_law_888 ?_
  refine rp_callVi [.int ((q 1))] (SX11_look (hn := hn) 0 ((q 1)) o0) cvX11_look (mw (i := 1101) (by decide +kernel)) (by omega) o0 (by decide) rfl rfl rfl (Nat.le_of_ble_eq_true rfl) dL_law_889 (fun x41 => ?_)
  refine rp_aload_n 2 dL_law_892 rfl ?_
  refine rp_aload_n 0 dL_law_893 rfl ?_
  refine rp_iload 4 dL_law_894 rfl ?_
  refine rp_iconst (1 : Int32) dL_law_896 (by decide) ?_
  refine rp_iadd dL_law_897 ?_
  refine rp_sld (hq 1 (by decide)) (hv 1 (by decide)) dL_law_898 ?_
  refine rp_callVi [.int ((q 1))] (SX12_look (hn := hn) 249 ((q 1)) o249) cvX12_look (mw (i := 1745) (by decide +kernel)) (by omega) o249 (by decide) rfl rfl rfl (Nat.le_of_ble_eq_true rfl) dL_law_899 (fun x42 => ?_)
  refine rp_icmp_eq 1290 dL_law_902 (by decide) ?_ ?_
  · exact rp_sub [0, 1, 2, 3, 4] rfl hE
  · exact rp_fl
noncomputable def TL_21 (chk : PP Unit) (q : Nat → Int32) : PP Unit := bd (FX11_rainbows 0) (fun x43 => bd (FX12_rainbows 249) (fun x44 => if x43 = x44 then chk else fl))
set_option maxHeartbeats 4000000 in
set_option maxRecDepth 100000 in
theorem LC_21 {l : Launch} {K : KK} {n : Nat} {chk : PP Unit} {zc zs b L : Nat} {xs : Nat → Int32} {x4 : Int32} {q : Nat → Int32} (hn : 270 ≤ n) (hE : RP l K n 200 mL_law (ZX K b L xs zc zs) 1290 [(0, .ref b), (1, .ref (K.2.1 + 0)), (2, .ref (K.2.1 + 249)), (3, .ref (K.2.1 + 270)), (4, .int x4)] [] enU (bd chk pu)) (hq : ∀ c, c < 7 → vp_in (x4 + Int32.ofNat c) L) (hv : ∀ c, c < 7 → xs (x4 + Int32.ofNat c).toNatClampNeg = q c) : RP l K n 200 mL_law (ZX K b L xs zc zs) 907 [(0, .ref b), (1, .ref (K.2.1 + 0)), (2, .ref (K.2.1 + 249)), (3, .ref (K.2.1 + 270)), (4, .int x4)] [] enU (TL_21 chk q) := by
  refine rp_id ?_
  unfold TL_21
  refine rp_aload_n 1 dL_law_907 rfl ?_
  refine rp_callVi [] (SX11_rainbows (hn := hn) 0 o0) cvX11_rainbows (mw (i := 1109) (by decide +kernel)) (by omega) o0 (by decide) rfl rfl rfl (Nat.le_of_ble_eq_true rfl) dL_law_908 (fun x43 => ?_)
  refine rp_aload_n 2 dL_law_911 rfl ?_
  refine rp_callVi [] (SX12_rainbows (hn := hn) 249 o249) cvX12_rainbows (mw (i := 1749) (by decide +kernel)) (by omega) o249 (by decide) rfl rfl rfl (Nat.le_of_ble_eq_true rfl) dL_law_912 (fun x44 => ?_)
  refine rp_icmp_eq 1290 dL_law_915 (by decide) ?_ ?_
  · exact rp_sub [0, 1, 2, 3, 4] rfl hE
  · exact rp_fl
noncomputable def TL_22 (chk : PP Unit) (q : Nat → Int32) : PP Unit := bd (FX11_quarrels 0) (fun x45 => bd (FX12_quarrels 249) (fun x46 => if x45 = x46 then chk else fl))
set_option maxHeartbeats 4000000 in
set_option maxRecDepth 100000 in
theorem LC_22 {l : Launch} {K : KK} {n : Nat} {chk : PP Unit} {zc zs b L : Nat} {xs : Nat → Int32} {x4 : Int32} {q : Nat → Int32} (hn : 270 ≤ n) (hE : RP l K n 200 mL_law (ZX K b L xs zc zs) 1290 [(0, .ref b), (1, .ref (K.2.1 + 0)), (2, .ref (K.2.1 + 249)), (3, .ref (K.2.1 + 270)), (4, .int x4)] [] enU (bd chk pu)) (hq : ∀ c, c < 7 → vp_in (x4 + Int32.ofNat c) L) (hv : ∀ c, c < 7 → xs (x4 + Int32.ofNat c).toNatClampNeg = q c) : RP l K n 200 mL_law (ZX K b L xs zc zs) 920 [(0, .ref b), (1, .ref (K.2.1 + 0)), (2, .ref (K.2.1 + 249)), (3, .ref (K.2.1 + 270)), (4, .int x4)] [] enU (TL_22 chk q) := by
  refine rp_id ?_
  unfold TL_22
  refine rp_aload_n 1 dL_law_920 rfl ?_
  refine rp_callVi [] (SX11_quarrels (hn := hn) 0 o0) cvX11_quarrels (mw (i := 1129) (by decide +kernel)) (by omega) o0 (by decide) rfl rfl rfl (Nat.le_of_ble_eq_true rfl) dL_law_921 (fun x45 => ?_)
  refine rp_aload_n 2 dL_law_924 rfl ?_
  refine rp_callVi [] (SX12_quarrels (hn := hn) 249 o249) cvX12_quarrels (mw (i := 1765) (by decide +kernel)) (by omega) o249 (by decide) rfl rfl rfl (Nat.le_of_ble_eq_true rfl) dL_law_925 (fun x46 => ?_)
  refine rp_icmp_eq 1290 dL_law_928 (by decide) ?_ ?_
  · exact rp_sub [0, 1, 2, 3, 4] rfl hE
  · exact rp_fl
noncomputable def TL_23 (chk : PP Unit) (q : Nat → Int32) : PP Unit := bd (FX11_best 0 ((q 1))) (fun x47 => bd (FX12_best 249 ((q 1))) (fun x48 => if x47 = x48 then chk else fl))
set_option maxHeartbeats 4000000 in
set_option maxRecDepth 100000 in
theorem LC_23 {l : Launch} {K : KK} {n : Nat} {chk : PP Unit} {zc zs b L : Nat} {xs : Nat → Int32} {x4 : Int32} {q : Nat → Int32} (hn : 270 ≤ n) (hE : RP l K n 200 mL_law (ZX K b L xs zc zs) 1290 [(0, .ref b), (1, .ref (K.2.1 + 0)), (2, .ref (K.2.1 + 249)), (3, .ref (K.2.1 + 270)), (4, .int x4)] [] enU (bd chk pu)) (hq : ∀ c, c < 7 → vp_in (x4 + Int32.ofNat c) L) (hv : ∀ c, c < 7 → xs (x4 + Int32.ofNat c).toNatClampNeg = q c) : RP l K n 200 mL_law (ZX K b L xs zc zs) 933 [(0, .ref b), (1, .ref (K.2.1 + 0)), (2, .ref (K.2.1 + 249)), (3, .ref (K.2.1 + 270)), (4, .int x4)] [] enU (TL_23 chk q) := by
  refine rp_id ?_
  unfold TL_23
  refine rp_aload_n 1 dL_law_933 rfl ?_
  refine rp_aload_n 0 dL_law_934 rfl ?_
  refine rp_iload 4 dL_law_935 rfl ?_
  refine rp_iconst (1 : Int32) dL_law_937 (by decide) ?_
  refine rp_iadd dL_law_938 ?_
  refine rp_sld (hq 1 (by decide)) (hv 1 (by decide)) dL_law_939 ?_
  refine rp_callVi [.int ((q 1))] (SX11_best (hn := hn) 0 ((q 1)) o0) cvX11_best (mw (i := 1133) (by decide +kernel)) (by omega) o0 (by decide) rfl rfl rfl (Nat.le_of_ble_eq_true rfl) dL_law_940 (fun x47 => ?_)
  refine rp_aload_n 2 dL_law_943 rfl ?_
  refine rp_aload_n 0 dL_law_944 rfl ?_
  refine rp_iload 4 dL_law_945 rfl ?_
  refine rp_iconst (1 : Int32) dL_law_947 (by decide) ?_
  refine rp_iadd dL_law_948 ?_
  refine rp_sld (hq 1 (by decide)) (hv 1 (by decide)) dL_law_949 ?_
  refine rp_callVi [.int ((q 1))] (SX12_best (hn := hn) 249 ((q 1)) o249) cvX12_best (mw (i := 1769) (by decide +kernel)) (by omega) o249 (by decide) rfl rfl rfl (Nat.le_of_ble_eq_true rfl) dL_law_950 (fun x48 => ?_)
  refine rp_icmp_eq 1290 dL_law_953 (by decide) ?_ ?_
  · exact rp_sub [0, 1, 2, 3, 4] rfl hE
  · exact rp_fl
noncomputable def TL_24 (chk : PP Unit) (q : Nat → Int32) : PP Unit := bd (FX11_owes 0 ((q 1))) (fun x49 => bd (FX12_owes 249 ((q 1))) (fun x50 => if x49 = x50 then chk else fl))
set_option maxHeartbeats 4000000 in
set_option maxRecDepth 100000 in
theorem LC_24 {l : Launch} {K : KK} {n : Nat} {chk : PP Unit} {zc zs b L : Nat} {xs : Nat → Int32} {x4 : Int32} {q : Nat → Int32} (hn : 270 ≤ n) (hE : RP l K n 200 mL_law (ZX K b L xs zc zs) 1290 [(0, .ref b), (1, .ref (K.2.1 + 0)), (2, .ref (K.2.1 + 249)), (3, .ref (K.2.1 + 270)), (4, .int x4)] [] enU (bd chk pu)) (hq : ∀ c, c < 7 → vp_in (x4 + Int32.ofNat c) L) (hv : ∀ c, c < 7 → xs (x4 + Int32.ofNat c).toNatClampNeg = q c) : RP l K n 200 mL_law (ZX K b L xs zc zs) 958 [(0, .ref b), (1, .ref (K.2.1 + 0)), (2, .ref (K.2.1 + 249)), (3, .ref (K.2.1 + 270)), (4, .int x4)] [] enU (TL_24 chk q) := by
  refine rp_id ?_
  unfold TL_24
  refine rp_aload_n 1 dL_law_958 rfl ?_
  refine rp_aload_n 0 dL_law_959 rfl ?_
  refine rp_iload 4 dL_law_960 rfl ?_
  refine rp_iconst (1 : Int32) dL_law_962 (by decide) ?_
  refine rp_iadd dL_law_963 ?_
  refine rp_sld (hq 1 (by decide)) (hv 1 (by decide)) dL_law_964 ?_
  refine rp_callVi [.int ((q 1))] (SX11_owes (hn := hn) 0 ((q 1)) o0) cvX11_owes (mw (i := 1141) (by decide +kernel)) (by omega) o0 (by decide) rfl rfl rfl (Nat.le_of_ble_eq_true rfl) dL_law_965 (fun x49 => ?_)
  refine rp_aload_n 2 dL_law_968 rfl ?_
  refine rp_aload_n 0 dL_law_969 rfl ?_
  refine rp_iload 4 dL_law_970 rfl ?_
  refine rp_iconst (1 : Int32) dL_law_972 (by decide) ?_
  refine rp_iadd dL_law_973 ?_
  refine rp_sld (hq 1 (by decide)) (hv 1 (by decide)) dL_law_974 ?_
  refine rp_callVi [.int ((q 1))] (SX12_owes (hn := hn) 249 ((q 1)) o249) cvX12_owes (mw (i := 1773) (by decide +kernel)) (by omega) o249 (by decide) rfl rfl rfl (Nat.le_of_ble_eq_true rfl) dL_law_975 (fun x50 => ?_)
  refine rp_icmp_eq 1290 dL_law_978 (by decide) ?_ ?_
  · exact rp_sub [0, 1, 2, 3, 4] rfl hE
  · exact rp_fl
noncomputable def TL_25 (chk : PP Unit) (q : Nat → Int32) : PP Unit := bd (FX11_chance 0 ((q 1)) ((q 2)) ((q 3))) (fun x51 => bd (FX12_chance 249 ((q 1)) ((q 2)) ((q 3))) (fun x52 => if x51 = x52 then chk else fl))
set_option maxHeartbeats 4000000 in
set_option maxRecDepth 100000 in
theorem LC_25 {l : Launch} {K : KK} {n : Nat} {chk : PP Unit} {zc zs b L : Nat} {xs : Nat → Int32} {x4 : Int32} {q : Nat → Int32} (hn : 270 ≤ n) (hE : RP l K n 200 mL_law (ZX K b L xs zc zs) 1290 [(0, .ref b), (1, .ref (K.2.1 + 0)), (2, .ref (K.2.1 + 249)), (3, .ref (K.2.1 + 270)), (4, .int x4)] [] enU (bd chk pu)) (hq : ∀ c, c < 7 → vp_in (x4 + Int32.ofNat c) L) (hv : ∀ c, c < 7 → xs (x4 + Int32.ofNat c).toNatClampNeg = q c) : RP l K n 200 mL_law (ZX K b L xs zc zs) 983 [(0, .ref b), (1, .ref (K.2.1 + 0)), (2, .ref (K.2.1 + 249)), (3, .ref (K.2.1 + 270)), (4, .int x4)] [] enU (TL_25 chk q) := by
  refine rp_id ?_
  unfold TL_25
  refine rp_aload_n 1 dL_law_983 rfl ?_
  refine rp_aload_n 0 dL_law_984 rfl ?_
  refine rp_iload 4 dL_law_985 rfl ?_
  refine rp_iconst (1 : Int32) dL_law_987 (by decide) ?_
  refine rp_iadd dL_law_988 ?_
  refine rp_sld (hq 1 (by decide)) (hv 1 (by decide)) dL_law_989 ?_
  refine rp_aload_n 0 dL_law_990 rfl ?_
  refine rp_iload 4 dL_law_991 rfl ?_
  refine rp_iconst (2 : Int32) dL_law_993 (by decide) ?_
  refine rp_iadd dL_law_994 ?_
  refine rp_sld (hq 2 (by decide)) (hv 2 (by decide)) dL_law_995 ?_
  refine rp_aload_n 0 dL_law_996 rfl ?_
  refine rp_iload 4 dL_law_997 rfl ?_
  refine rp_iconst (3 : Int32) dL_law_999 (by decide) ?_
  refine rp_iadd dL_law_1000 ?_
  refine rp_sld (hq 3 (by decide)) (hv 3 (by decide)) dL_law_1001 ?_
  refine rp_callVi [.int ((q 1)), .int ((q 2)), .int ((q 3))] (SX11_chance (hn := hn) 0 ((q 1)) ((q 2)) ((q 3)) o0) cvX11_chance (mw (i := 1002) (by decide +kernel)) (by omega) o0 (by decide) rfl rfl rfl (Nat.le_of_ble_eq_true rfl) dL_law_1002 (fun x51 => ?_)
  refine rp_aload_n 2 dL_law_1005 rfl ?_
  refine rp_aload_n 0 dL_law_1006 rfl ?_
  refine rp_iload 4 dL_law_1007 rfl ?_
  refine rp_iconst (1 : Int32) dL_law_1009 (by decide) ?_
  refine rp_iadd dL_law_1010 ?_
  refine rp_sld (hq 1 (by decide)) (hv 1 (by decide)) dL_law_1011 ?_
  refine rp_aload_n 0 dL_law_1012 rfl ?_
  refine rp_iload 4 dL_law_1013 rfl ?_
  refine rp_iconst (2 : Int32) dL_law_1015 (by decide) ?_
  refine rp_iadd dL_law_1016 ?_
  refine rp_sld (hq 2 (by decide)) (hv 2 (by decide)) dL_law_1017 ?_
  refine rp_aload_n 0 dL_law_1018 rfl ?_
  refine rp_iload 4 dL_law_1019 rfl ?_
  refine rp_iconst (3 : Int32) dL_law_1021 (by decide) ?_
  refine rp_iadd dL_law_1022 ?_
  refine rp_sld (hq 3 (by decide)) (hv 3 (by decide)) dL_law_1023 ?_
  refine rp_callVi [.int ((q 1)), .int ((q 2)), .int ((q 3))] (SX12_chance (hn := hn) 249 ((q 1)) ((q 2)) ((q 3)) o249) cvX12_chance (mw (i := 1777) (by decide +kernel)) (by omega) o249 (by decide) rfl rfl rfl (Nat.le_of_ble_eq_true rfl) dL_law_1024 (fun x52 => ?_)
  refine rp_icmp_eq 1290 dL_law_1027 (by decide) ?_ ?_
  · exact rp_sub [0, 1, 2, 3, 4] rfl hE
  · exact rp_fl
noncomputable def TL_26 (chk : PP Unit) (q : Nat → Int32) : PP Unit := bd (FX11_same 0) (fun x53 => bd (FX12_same 249) (fun x54 => if x53 = x54 then chk else fl))
set_option maxHeartbeats 4000000 in
set_option maxRecDepth 100000 in
theorem LC_26 {l : Launch} {K : KK} {n : Nat} {chk : PP Unit} {zc zs b L : Nat} {xs : Nat → Int32} {x4 : Int32} {q : Nat → Int32} (hn : 270 ≤ n) (hE : RP l K n 200 mL_law (ZX K b L xs zc zs) 1290 [(0, .ref b), (1, .ref (K.2.1 + 0)), (2, .ref (K.2.1 + 249)), (3, .ref (K.2.1 + 270)), (4, .int x4)] [] enU (bd chk pu)) (hq : ∀ c, c < 7 → vp_in (x4 + Int32.ofNat c) L) (hv : ∀ c, c < 7 → xs (x4 + Int32.ofNat c).toNatClampNeg = q c) : RP l K n 200 mL_law (ZX K b L xs zc zs) 1032 [(0, .ref b), (1, .ref (K.2.1 + 0)), (2, .ref (K.2.1 + 249)), (3, .ref (K.2.1 + 270)), (4, .int x4)] [] enU (TL_26 chk q) := by
  refine rp_id ?_
  unfold TL_26
  refine rp_aload_n 1 dL_law_1032 rfl ?_
  refine rp_callVi [] (SX11_same (hn := hn) 0 o0) cvX11_same (mw (i := 1145) (by decide +kernel)) (by omega) o0 (by decide) rfl rfl rfl (Nat.le_of_ble_eq_true rfl) dL_law_1033 (fun x53 => ?_)
  refine rp_aload_n 2 dL_law_1036 rfl ?_
  refine rp_callVi [] (SX12_same (hn := hn) 249 o249) cvX12_same (mw (i := 1782) (by decide +kernel)) (by omega) o249 (by decide) rfl rfl rfl (Nat.le_of_ble_eq_true rfl) dL_law_1037 (fun x54 => ?_)
  refine rp_icmp_eq 1290 dL_law_1040 (by decide) ?_ ?_
  · exact rp_sub [0, 1, 2, 3, 4] rfl hE
  · exact rp_fl
noncomputable def TL_27 (chk : PP Unit) (q : Nat → Int32) : PP Unit := bd (FX11_storm 0) (fun x55 => bd (FX12_storm 249) (fun x56 => if x55 = x56 then chk else fl))
set_option maxHeartbeats 4000000 in
set_option maxRecDepth 100000 in
theorem LC_27 {l : Launch} {K : KK} {n : Nat} {chk : PP Unit} {zc zs b L : Nat} {xs : Nat → Int32} {x4 : Int32} {q : Nat → Int32} (hn : 270 ≤ n) (hE : RP l K n 200 mL_law (ZX K b L xs zc zs) 1290 [(0, .ref b), (1, .ref (K.2.1 + 0)), (2, .ref (K.2.1 + 249)), (3, .ref (K.2.1 + 270)), (4, .int x4)] [] enU (bd chk pu)) (hq : ∀ c, c < 7 → vp_in (x4 + Int32.ofNat c) L) (hv : ∀ c, c < 7 → xs (x4 + Int32.ofNat c).toNatClampNeg = q c) : RP l K n 200 mL_law (ZX K b L xs zc zs) 1045 [(0, .ref b), (1, .ref (K.2.1 + 0)), (2, .ref (K.2.1 + 249)), (3, .ref (K.2.1 + 270)), (4, .int x4)] [] enU (TL_27 chk q) := by
  refine rp_id ?_
  unfold TL_27
  refine rp_aload_n 1 dL_law_1045 rfl ?_
  refine rp_callVi [] (SX11_storm (hn := hn) 0 o0) cvX11_storm (mw (i := 1149) (by decide +kernel)) (by omega) o0 (by decide) rfl rfl rfl (Nat.le_of_ble_eq_true rfl) dL_law_1046 (fun x55 => ?_)
  refine rp_aload_n 2 dL_law_1049 rfl ?_
  refine rp_callVi [] (SX12_storm (hn := hn) 249 o249) cvX12_storm (mw (i := 1786) (by decide +kernel)) (by omega) o249 (by decide) rfl rfl rfl (Nat.le_of_ble_eq_true rfl) dL_law_1050 (fun x56 => ?_)
  refine rp_icmp_eq 1290 dL_law_1053 (by decide) ?_ ?_
  · exact rp_sub [0, 1, 2, 3, 4] rfl hE
  · exact rp_fl
noncomputable def TL_28 (chk : PP Unit) (q : Nat → Int32) : PP Unit := bd (FX11_last 0) (fun x57 => bd (FX12_last 249) (fun x58 => if x57 = x58 then chk else fl))
set_option maxHeartbeats 4000000 in
set_option maxRecDepth 100000 in
theorem LC_28 {l : Launch} {K : KK} {n : Nat} {chk : PP Unit} {zc zs b L : Nat} {xs : Nat → Int32} {x4 : Int32} {q : Nat → Int32} (hn : 270 ≤ n) (hE : RP l K n 200 mL_law (ZX K b L xs zc zs) 1290 [(0, .ref b), (1, .ref (K.2.1 + 0)), (2, .ref (K.2.1 + 249)), (3, .ref (K.2.1 + 270)), (4, .int x4)] [] enU (bd chk pu)) (hq : ∀ c, c < 7 → vp_in (x4 + Int32.ofNat c) L) (hv : ∀ c, c < 7 → xs (x4 + Int32.ofNat c).toNatClampNeg = q c) : RP l K n 200 mL_law (ZX K b L xs zc zs) 1058 [(0, .ref b), (1, .ref (K.2.1 + 0)), (2, .ref (K.2.1 + 249)), (3, .ref (K.2.1 + 270)), (4, .int x4)] [] enU (TL_28 chk q) := by
  refine rp_id ?_
  unfold TL_28
  refine rp_aload_n 1 dL_law_1058 rfl ?_
  refine rp_callVi [] (SX11_last (hn := hn) 0 o0) cvX11_last (mw (i := 997) (by decide +kernel)) (by omega) o0 (by decide) rfl rfl rfl (Nat.le_of_ble_eq_true rfl) dL_law_1059 (fun x57 => ?_)
  refine rp_aload_n 2 dL_law_1062 rfl ?_
  refine rp_callVi [] (SX12_last (hn := hn) 249 o249) cvX12_last (mw (i := 1694) (by decide +kernel)) (by omega) o249 (by decide) rfl rfl rfl (Nat.le_of_ble_eq_true rfl) dL_law_1063 (fun x58 => ?_)
  refine rp_icmp_eq 1290 dL_law_1066 (by decide) ?_ ?_
  · exact rp_sub [0, 1, 2, 3, 4] rfl hE
  · exact rp_fl
noncomputable def TL_30 (chk : PP Unit) (q : Nat → Int32) : PP Unit := bd (FX11_mays 0 ((q 1)) ((q 2)) ((q 3))) (fun x59 => bd (FX12_mays 249 ((q 1)) ((q 2)) ((q 3))) (fun x60 => if x59 = x60 then chk else fl))
set_option maxHeartbeats 4000000 in
set_option maxRecDepth 100000 in
theorem LC_30 {l : Launch} {K : KK} {n : Nat} {chk : PP Unit} {zc zs b L : Nat} {xs : Nat → Int32} {x4 : Int32} {q : Nat → Int32} (hn : 270 ≤ n) (hE : RP l K n 200 mL_law (ZX K b L xs zc zs) 1290 [(0, .ref b), (1, .ref (K.2.1 + 0)), (2, .ref (K.2.1 + 249)), (3, .ref (K.2.1 + 270)), (4, .int x4)] [] enU (bd chk pu)) (hq : ∀ c, c < 7 → vp_in (x4 + Int32.ofNat c) L) (hv : ∀ c, c < 7 → xs (x4 + Int32.ofNat c).toNatClampNeg = q c) : RP l K n 200 mL_law (ZX K b L xs zc zs) 1163 [(0, .ref b), (1, .ref (K.2.1 + 0)), (2, .ref (K.2.1 + 249)), (3, .ref (K.2.1 + 270)), (4, .int x4)] [] enU (TL_30 chk q) := by
  refine rp_id ?_
  unfold TL_30
  refine rp_aload_n 1 dL_law_1163 rfl ?_
  refine rp_aload_n 0 dL_law_1164 rfl ?_
  refine rp_iload 4 dL_law_1165 rfl ?_
  refine rp_iconst (1 : Int32) dL_law_1167 (by decide) ?_
  refine rp_iadd dL_law_1168 ?_
  refine rp_sld (hq 1 (by decide)) (hv 1 (by decide)) dL_law_1169 ?_
  refine rp_aload_n 0 dL_law_1170 rfl ?_
  refine rp_iload 4 dL_law_1171 rfl ?_
  refine rp_iconst (2 : Int32) dL_law_1173 (by decide) ?_
  refine rp_iadd dL_law_1174 ?_
  refine rp_sld (hq 2 (by decide)) (hv 2 (by decide)) dL_law_1175 ?_
  refine rp_aload_n 0 dL_law_1176 rfl ?_
  refine rp_iload 4 dL_law_1177 rfl ?_
  refine rp_iconst (3 : Int32) dL_law_1179 (by decide) ?_
  refine rp_iadd dL_law_1180 ?_
  refine rp_sld (hq 3 (by decide)) (hv 3 (by decide)) dL_law_1181 ?_
  refine rp_callVi [.int ((q 1)), .int ((q 2)), .int ((q 3))] (SX11_mays (hn := hn) 0 ((q 1)) ((q 2)) ((q 3)) o0) cvX11_mays (mw (i := 1153) (by decide +kernel)) (by omega) o0 (by decide) rfl rfl rfl (Nat.le_of_ble_eq_true rfl) dL_law_1182 (fun x59 => ?_)
  refine rp_aload_n 2 dL_law_1185 rfl ?_
  refine rp_aload_n 0 dL_law_1186 rfl ?_
  refine rp_iload 4 dL_law_1187 rfl ?_
  refine rp_iconst (1 : Int32) dL_law_1189 (by decide) ?_
  refine rp_iadd dL_law_1190 ?_
  refine rp_sld (hq 1 (by decide)) (hv 1 (by decide)) dL_law_1191 ?_
  refine rp_aload_n 0 dL_law_1192 rfl ?_
  refine rp_iload 4 dL_law_1193 rfl ?_
  refine rp_iconst (2 : Int32) dL_law_1195 (by decide) ?_
  refine rp_iadd dL_law_1196 ?_
  refine rp_sld (hq 2 (by decide)) (hv 2 (by decide)) dL_law_1197 ?_
  refine rp_aload_n 0 dL_law_1198 rfl ?_
  refine rp_iload 4 dL_law_1199 rfl ?_
  refine rp_iconst (3 : Int32) dL_law_1201 (by decide) ?_
  refine rp_iadd dL_law_1202 ?_
  refine rp_sld (hq 3 (by decide)) (hv 3 (by decide)) dL_law_1203 ?_
  refine rp_callVi [.int ((q 1)), .int ((q 2)), .int ((q 3))] (SX12_mays (hn := hn) 249 ((q 1)) ((q 2)) ((q 3)) o249) cvX12_mays (mw (i := 1797) (by decide +kernel)) (by omega) o249 (by decide) rfl rfl rfl (Nat.le_of_ble_eq_true rfl) dL_law_1204 (fun x60 => ?_)
  refine rp_icmp_eq 1290 dL_law_1207 (by decide) ?_ ?_
  · exact rp_sub [0, 1, 2, 3, 4] rfl hE
  · exact rp_fl
noncomputable def TL_31 (chk : PP Unit) (q : Nat → Int32) : PP Unit := bd (if ((q 2)) = 0 then pu (0 : Int32) else pu (1 : Int32) : PP (Int32)) (fun (v61 : Int32) => bd (FX11_mark 0 ((q 1)) v61) (fun x62 => bd (if ((q 2)) = 0 then pu (0 : Int32) else pu (1 : Int32) : PP (Int32)) (fun (v63 : Int32) => bd (FX12_mark 249 ((q 1)) v63) (fun x64 => if ((b2i x62)) = ((b2i x64)) then chk else fl))))
set_option maxHeartbeats 4000000 in
set_option maxRecDepth 100000 in
theorem LC_31 {l : Launch} {K : KK} {n : Nat} {chk : PP Unit} {zc zs b L : Nat} {xs : Nat → Int32} {x4 : Int32} {q : Nat → Int32} (hn : 270 ≤ n) (hE : RP l K n 200 mL_law (ZX K b L xs zc zs) 1290 [(0, .ref b), (1, .ref (K.2.1 + 0)), (2, .ref (K.2.1 + 249)), (3, .ref (K.2.1 + 270)), (4, .int x4)] [] enU (bd chk pu)) (hq : ∀ c, c < 7 → vp_in (x4 + Int32.ofNat c) L) (hv : ∀ c, c < 7 → xs (x4 + Int32.ofNat c).toNatClampNeg = q c) : RP l K n 200 mL_law (ZX K b L xs zc zs) 1212 [(0, .ref b), (1, .ref (K.2.1 + 0)), (2, .ref (K.2.1 + 249)), (3, .ref (K.2.1 + 270)), (4, .int x4)] [] enU (TL_31 chk q) := by
  refine rp_id ?_
  unfold TL_31
  refine rp_aload_n 1 dL_law_1212 rfl ?_
  refine rp_aload_n 0 dL_law_1213 rfl ?_
  refine rp_iload 4 dL_law_1214 rfl ?_
  refine rp_iconst (1 : Int32) dL_law_1216 (by decide) ?_
  refine rp_iadd dL_law_1217 ?_
  refine rp_sld (hq 1 (by decide)) (hv 1 (by decide)) dL_law_1218 ?_
  refine rp_aload_n 0 dL_law_1219 rfl ?_
  refine rp_iload 4 dL_law_1220 rfl ?_
  refine rp_iconst (2 : Int32) dL_law_1222 (by decide) ?_
  refine rp_iadd dL_law_1223 ?_
  refine rp_sld (hq 2 (by decide)) (hv 2 (by decide)) dL_law_1224 ?_
  refine rp_as ?_
  refine rp_join 1233 (fun (v61 : Int32) => [(0, .ref b), (1, .ref (K.2.1 + 0)), (2, .ref (K.2.1 + 249)), (3, .ref (K.2.1 + 270)), (4, .int x4)]) (fun v61 => [.int v61, .int ((q 1)), .ref (K.2.1 + 0)]) (fun v61 => ?_) (fun hJ1233 => ?_)
  · refine rp_callVz [.int ((q 1)), .int v61] (SX11_mark (hn := hn) 0 ((q 1)) v61 o0) cvX11_mark (mw (i := 930) (by decide +kernel)) (by omega) o0 (by decide) rfl rfl rfl (Nat.le_of_ble_eq_true rfl) dL_law_1233 (fun x62 => ?_)
    refine rp_aload_n 2 dL_law_1236 rfl ?_
    refine rp_aload_n 0 dL_law_1237 rfl ?_
    refine rp_iload 4 dL_law_1238 rfl ?_
    refine rp_iconst (1 : Int32) dL_law_1240 (by decide) ?_
    refine rp_iadd dL_law_1241 ?_
    refine rp_sld (hq 1 (by decide)) (hv 1 (by decide)) dL_law_1242 ?_
    refine rp_aload_n 0 dL_law_1243 rfl ?_
    refine rp_iload 4 dL_law_1244 rfl ?_
    refine rp_iconst (2 : Int32) dL_law_1246 (by decide) ?_
    refine rp_iadd dL_law_1247 ?_
    refine rp_sld (hq 2 (by decide)) (hv 2 (by decide)) dL_law_1248 ?_
    refine rp_as ?_
    refine rp_join 1257 (fun (v63 : Int32) => [(0, .ref b), (1, .ref (K.2.1 + 0)), (2, .ref (K.2.1 + 249)), (3, .ref (K.2.1 + 270)), (4, .int x4)]) (fun v63 => [.int v63, .int ((q 1)), .ref (K.2.1 + 249), .int ((b2i x62))]) (fun v63 => ?_) (fun hJ1257 => ?_)
    · refine rp_callVz [.int ((q 1)), .int v63] (SX12_mark (hn := hn) 249 ((q 1)) v63 o249) cvX12_mark (mw (i := 1813) (by decide +kernel)) (by omega) o249 (by decide) rfl rfl rfl (Nat.le_of_ble_eq_true rfl) dL_law_1257 (fun x64 => ?_)
      refine rp_icmp_eq 1290 dL_law_1260 (by decide) ?_ ?_
      · exact rp_sub [0, 1, 2, 3, 4] rfl hE
      · exact rp_fl
    refine rp_if_eq 1256 dL_law_1249 (by decide) ?_ ?_
    · refine rp_iconst (0 : Int32) dL_law_1256 (by decide) ?_
      exact rp_sub [0, 1, 2, 3, 4] rfl (rp_pu (hJ1257 (0 : Int32)))
    · refine rp_iconst (1 : Int32) dL_law_1252 (by decide) ?_
      refine rp_goto 1257 dL_law_1253 (by decide) ?_
      exact rp_sub [0, 1, 2, 3, 4] rfl (rp_pu (hJ1257 (1 : Int32)))
  refine rp_if_eq 1232 dL_law_1225 (by decide) ?_ ?_
  · refine rp_iconst (0 : Int32) dL_law_1232 (by decide) ?_
    exact rp_sub [0, 1, 2, 3, 4] rfl (rp_pu (hJ1233 (0 : Int32)))
  · refine rp_iconst (1 : Int32) dL_law_1228 (by decide) ?_
    refine rp_goto 1233 dL_law_1229 (by decide) ?_
    exact rp_sub [0, 1, 2, 3, 4] rfl (rp_pu (hJ1233 (1 : Int32)))
noncomputable def TL_32 (chk : PP Unit) (q : Nat → Int32) : PP Unit := bd (FX11_count 0 ((q 1))) (fun x65 => bd (FX12_count 249 ((q 1))) (fun x66 => if x65 = x66 then chk else fl))
set_option maxHeartbeats 4000000 in
set_option maxRecDepth 100000 in
theorem LC_32 {l : Launch} {K : KK} {n : Nat} {chk : PP Unit} {zc zs b L : Nat} {xs : Nat → Int32} {x4 : Int32} {q : Nat → Int32} (hn : 270 ≤ n) (hE : RP l K n 200 mL_law (ZX K b L xs zc zs) 1290 [(0, .ref b), (1, .ref (K.2.1 + 0)), (2, .ref (K.2.1 + 249)), (3, .ref (K.2.1 + 270)), (4, .int x4)] [] enU (bd chk pu)) (hq : ∀ c, c < 7 → vp_in (x4 + Int32.ofNat c) L) (hv : ∀ c, c < 7 → xs (x4 + Int32.ofNat c).toNatClampNeg = q c) : RP l K n 200 mL_law (ZX K b L xs zc zs) 1265 [(0, .ref b), (1, .ref (K.2.1 + 0)), (2, .ref (K.2.1 + 249)), (3, .ref (K.2.1 + 270)), (4, .int x4)] [] enU (TL_32 chk q) := by
  refine rp_id ?_
  unfold TL_32
  refine rp_aload_n 1 dL_law_1265 rfl ?_
  refine rp_aload_n 0 dL_law_1266 rfl ?_
  refine rp_iload 4 dL_law_1267 rfl ?_
  refine rp_iconst (1 : Int32) dL_law_1269 (by decide) ?_
  refine rp_iadd dL_law_1270 ?_
  refine rp_sld (hq 1 (by decide)) (hv 1 (by decide)) dL_law_1271 ?_
  refine rp_callVi [.int ((q 1))] (SX11_count (hn := hn) 0 ((q 1)) o0) cvX11_count (mw (i := 827) (by decide +kernel)) (by omega) o0 (by decide) rfl rfl rfl (Nat.le_of_ble_eq_true rfl) dL_law_1272 (fun x65 => ?_)
  refine rp_aload_n 2 dL_law_1275 rfl ?_
  refine rp_aload_n 0 dL_law_1276 rfl ?_
  refine rp_iload 4 dL_law_1277 rfl ?_
  refine rp_iconst (1 : Int32) dL_law_1279 (by decide) ?_
  refine rp_iadd dL_law_1280 ?_
  refine rp_sld (hq 1 (by decide)) (hv 1 (by decide)) dL_law_1281 ?_
  refine rp_callVi [.int ((q 1))] (SX12_count (hn := hn) 249 ((q 1)) o249) cvX12_count (mw (i := 1817) (by decide +kernel)) (by omega) o249 (by decide) rfl rfl rfl (Nat.le_of_ble_eq_true rfl) dL_law_1282 (fun x66 => ?_)
  refine rp_icmp_eq 1290 dL_law_1285 (by decide) ?_ ?_
  · exact rp_sub [0, 1, 2, 3, 4] rfl hE
  · exact rp_fl

