/-! ===== the law's loop ===== -/
noncomputable def chkI : PP Unit := fun τ => @ite _ (Inv τ) (Classical.propDecidable _) (some ((), τ)) none
theorem chk_ok (τ : MM) (h : Inv τ) : chkI τ = some ((), τ) := by unfold chkI; rw [if_pos h]
theorem chk_inv {τ : MM} {q : Unit × MM} (h : chkI τ = some q) : Inv τ := by
  unfold chkI at h
  by_cases g : Inv τ
  · exact g
  · rw [if_neg g] at h; cases h
theorem okT {σ : MM} {x : Int32} {d : PP Unit} (hd : ∃ τ, d σ = some ((), τ) ∧ Inv τ) : ∀ (cs : List Int32) (ts : List (PP Unit)), (∀ t ∈ ts, ∃ τ, t σ = some ((), τ) ∧ Inv τ) → ∃ τ, tsw x cs ts d σ = some ((), τ) ∧ Inv τ
  | [], _, _ => by unfold tsw; exact hd
  | c :: cs, [], _ => by unfold tsw; exact hd
  | c :: cs, t :: ts, h => by
    show ∃ τ, (if x = c then t else tsw x cs ts d) σ = some ((), τ) ∧ Inv τ
    by_cases e : x = c
    · rw [if_pos e]
      exact h t List.mem_cons_self
    · rw [if_neg e]
      exact okT hd cs ts (fun u hu => h u (List.mem_cons_of_mem _ hu))
noncomputable def tsL (q : Nat → Int32) : List (PP Unit) := [TL_0 chkI q, TL_1 chkI q, TL_2 chkI q, TL_3 chkI q, TL_4 chkI q, TL_5 chkI q, TL_6 chkI q, TL_7 chkI q, TL_8 chkI q, TL_9 chkI q, TL_10 chkI q, TL_11 chkI q, TL_12 chkI q, TL_13 chkI q, TL_14 chkI q, TL_15 chkI q, TL_16 chkI q, TL_17 chkI q, TL_18 chkI q, TL_19 chkI q, TL_20 chkI q, TL_21 chkI q, TL_22 chkI q, TL_23 chkI q, TL_24 chkI q, TL_25 chkI q, TL_26 chkI q, TL_27 chkI q, TL_28 chkI q, TL_29 chkI q, TL_30 chkI q, TL_31 chkI q, TL_32 chkI q]
abbrev csL : List Int32 := [(0 : Int32), (1 : Int32), (2 : Int32), (3 : Int32), (4 : Int32), (5 : Int32), (6 : Int32), (7 : Int32), (8 : Int32), (9 : Int32), (10 : Int32), (11 : Int32), (12 : Int32), (13 : Int32), (14 : Int32), (15 : Int32), (16 : Int32), (17 : Int32), (18 : Int32), (19 : Int32), (20 : Int32), (21 : Int32), (22 : Int32), (23 : Int32), (24 : Int32), (25 : Int32), (26 : Int32), (27 : Int32), (28 : Int32), (29 : Int32), (30 : Int32), (31 : Int32), (32 : Int32)]
theorem ok_all {σ : MM} (h : Inv σ) (q : Nat → Int32) : ∀ t ∈ tsL q, ∃ τ, t σ = some ((), τ) ∧ Inv τ := by
  unfold tsL
  exact List.forall_mem_cons.mpr ⟨ok_0 h q chkI chk_ok, List.forall_mem_cons.mpr ⟨ok_1 h q chkI chk_ok, List.forall_mem_cons.mpr ⟨ok_2 h q chkI chk_ok, List.forall_mem_cons.mpr ⟨ok_3 h q chkI chk_ok, List.forall_mem_cons.mpr ⟨ok_4 h q chkI chk_ok, List.forall_mem_cons.mpr ⟨ok_5 h q chkI chk_ok, List.forall_mem_cons.mpr ⟨ok_6 h q chkI chk_ok, List.forall_mem_cons.mpr ⟨ok_7 h q chkI chk_ok, List.forall_mem_cons.mpr ⟨ok_8 h q chkI chk_ok, List.forall_mem_cons.mpr ⟨ok_9 h q chkI chk_ok, List.forall_mem_cons.mpr ⟨ok_10 h q chkI chk_ok, List.forall_mem_cons.mpr ⟨ok_11 h q chkI chk_ok, List.forall_mem_cons.mpr ⟨ok_12 h q chkI chk_ok, List.forall_mem_cons.mpr ⟨ok_13 h q chkI chk_ok, List.forall_mem_cons.mpr ⟨ok_14 h q chkI chk_ok, List.forall_mem_cons.mpr ⟨ok_15 h q chkI chk_ok, List.forall_mem_cons.mpr ⟨ok_16 h q chkI chk_ok, List.forall_mem_cons.mpr ⟨ok_17 h q chkI chk_ok, List.forall_mem_cons.mpr ⟨ok_18 h q chkI chk_ok, List.forall_mem_cons.mpr ⟨ok_19 h q chkI chk_ok, List.forall_mem_cons.mpr ⟨ok_20 h q chkI chk_ok, List.forall_mem_cons.mpr ⟨ok_21 h q chkI chk_ok, List.forall_mem_cons.mpr ⟨ok_22 h q chkI chk_ok, List.forall_mem_cons.mpr ⟨ok_23 h q chkI chk_ok, List.forall_mem_cons.mpr ⟨ok_24 h q chkI chk_ok, List.forall_mem_cons.mpr ⟨ok_25 h q chkI chk_ok, List.forall_mem_cons.mpr ⟨ok_26 h q chkI chk_ok, List.forall_mem_cons.mpr ⟨ok_27 h q chkI chk_ok, List.forall_mem_cons.mpr ⟨ok_28 h q chkI chk_ok, List.forall_mem_cons.mpr ⟨ok_29 h q chkI chk_ok, List.forall_mem_cons.mpr ⟨ok_30 h q chkI chk_ok, List.forall_mem_cons.mpr ⟨ok_31 h q chkI chk_ok, List.forall_mem_cons.mpr ⟨ok_32 h q chkI chk_ok, fun _ h => absurd h List.not_mem_nil⟩⟩⟩⟩⟩⟩⟩⟩⟩⟩⟩⟩⟩⟩⟩⟩⟩⟩⟩⟩⟩⟩⟩⟩⟩⟩⟩⟩⟩⟩⟩⟩⟩
theorem lp_c {L i : Nat} (hL : L ≤ 3584) (hi : i ≤ 513) (h : ¬ (Int32.ofNat L - 7 < nI (7 * i))) : 7 * i + 7 ≤ L := by
  by_cases h7 : L < 7
  · exfalso
    have hn : ∀ k, k < 7 → Int32.ofNat k - 7 < 0 := by decide
    exact h (Int32.lt_of_lt_of_le (hn L h7) (nI_pos' (by omega)))
  · have e : Int32.ofNat L - 7 = nI (L - 7) := by
      have e1 : Int32.ofNat L = nI (L - 7) + 7 := by
        show nI L = nI (L - 7) + nI 7
        rw [nI_add]
        exact congrArg nI (by omega)
      rw [e1, Int32.add_sub_cancel]
    rw [e] at h
    have h2 : ¬ (L - 7 < 7 * i) := fun q => h ((nI_ltI (by omega) (by omega)).mpr q)
    omega
set_option maxHeartbeats 4000000 in
set_option maxRecDepth 100000 in
theorem LC_body {l : Launch} {K : KK} {zc zs b L : Nat} {xs : Nat → Int32} {x4 : Int32} {q : Nat → Int32} (hl : l.stackTraces = false) (hz1 : zc + 1 ≤ 1000) (hz2 : zs + 6 ≤ 30000)
    (hE1 : RP l K 271 200 mL_law (ZX K b L xs zc zs) 1290 [(0, .ref b), (1, .ref (K.2.1 + 0)), (2, .ref (K.2.1 + 249)), (3, .ref (K.2.1 + 270)), (4, .int x4)] [] enU (bd chkI pu)) (hE2 : RP l K 271 200 mL_law (ZX K b L xs (zc + 1) (zs + 6)) 1290 [(0, .ref b), (1, .ref (K.2.1 + 0)), (2, .ref (K.2.1 + 249)), (3, .ref (K.2.1 + 270)), (4, .int x4)] [] enU (bd chkI pu)) (hq : ∀ c, c < 7 → vp_in (x4 + Int32.ofNat c) L) (hv : ∀ c, c < 7 → xs (x4 + Int32.ofNat c).toNatClampNeg = q c) (hq0 : vp_in x4 L) (hv0 : xs x4.toNatClampNeg = q 0) :
    RP l K 271 200 mL_law (ZX K b L xs zc zs) 33 [(0, .ref b), (1, .ref (K.2.1 + 0)), (2, .ref (K.2.1 + 249)), (3, .ref (K.2.1 + 270)), (4, .int x4)] [] enU (bd (tsw (q 0 &&& 63) csL (tsL q) chkI) pu) := by
  refine rp_aload_n 0 dL_law_33 rfl ?_
  refine rp_iload 4 dL_law_34 rfl ?_
  refine rp_sld hq0 hv0 dL_law_36 ?_
  refine rp_bipush (63 : Int32) dL_law_37 (by decide) ?_
  refine rp_iand dL_law_39 ?_
  refine rp_tsw [188, 335, 348, 361, 398, 435, 472, 521, 546, 571, 584, 597, 622, 659, 684, 709, 746, 771, 808, 857, 882, 907, 920, 933, 958, 983, 1032, 1045, 1058, 1071, 1163, 1212, 1265] 1290 dL_law_40 rfl (by decide +kernel) ?_ hE1
  exact ⟨by rw [bd_pu]; exact LC_0 (by decide) hE1 hq hv, ⟨by rw [bd_pu]; exact LC_1 (by decide) hE1 hq hv, ⟨by rw [bd_pu]; exact LC_2 (by decide) hE1 hq hv, ⟨by rw [bd_pu]; exact LC_3 (by decide) hE1 hq hv, ⟨by rw [bd_pu]; exact LC_4 (by decide) hE1 hq hv, ⟨by rw [bd_pu]; exact LC_5 (by decide) hE1 hq hv, ⟨by rw [bd_pu]; exact LC_6 (by decide) hE1 hq hv, ⟨by rw [bd_pu]; exact LC_7 (by decide) hE1 hq hv, ⟨by rw [bd_pu]; exact LC_8 (by decide) hE1 hq hv, ⟨by rw [bd_pu]; exact LC_9 (by decide) hE1 hq hv, ⟨by rw [bd_pu]; exact LC_10 (by decide) hE1 hq hv, ⟨by rw [bd_pu]; exact LC_11 (by decide) hE1 hq hv, ⟨by rw [bd_pu]; exact LC_12 (by decide) hE1 hq hv, ⟨by rw [bd_pu]; exact LC_13 (by decide) hE1 hq hv, ⟨by rw [bd_pu]; exact LC_14 (by decide) hE1 hq hv, ⟨by rw [bd_pu]; exact LC_15 (by decide) hE1 hq hv, ⟨by rw [bd_pu]; exact LC_16 (by decide) hE1 hq hv, ⟨by rw [bd_pu]; exact LC_17 (by decide) hE1 hq hv, ⟨by rw [bd_pu]; exact LC_18 (by decide) hE1 hq hv, ⟨by rw [bd_pu]; exact LC_19 (by decide) hE1 hq hv, ⟨by rw [bd_pu]; exact LC_20 (by decide) hE1 hq hv, ⟨by rw [bd_pu]; exact LC_21 (by decide) hE1 hq hv, ⟨by rw [bd_pu]; exact LC_22 (by decide) hE1 hq hv, ⟨by rw [bd_pu]; exact LC_23 (by decide) hE1 hq hv, ⟨by rw [bd_pu]; exact LC_24 (by decide) hE1 hq hv, ⟨by rw [bd_pu]; exact LC_25 (by decide) hE1 hq hv, ⟨by rw [bd_pu]; exact LC_26 (by decide) hE1 hq hv, ⟨by rw [bd_pu]; exact LC_27 (by decide) hE1 hq hv, ⟨by rw [bd_pu]; exact LC_28 (by decide) hE1 hq hv, ⟨by rw [bd_pu]; exact LC_29 hl (by omega) (by omega) hE2 hq hv, ⟨by rw [bd_pu]; exact LC_30 (by decide) hE1 hq hv, ⟨by rw [bd_pu]; exact LC_31 (by decide) hE1 hq hv, ⟨by rw [bd_pu]; exact LC_32 (by decide) hE1 hq hv, trivial⟩⟩⟩⟩⟩⟩⟩⟩⟩⟩⟩⟩⟩⟩⟩⟩⟩⟩⟩⟩⟩⟩⟩⟩⟩⟩⟩⟩⟩⟩⟩⟩⟩
theorem LC_next {l : Launch} {K : KK} {zc zs b L : Nat} {xs : Nat → Int32} {x4 x5 : Int32} (hx : x4 + 7 = x5) (h : ∀ σ, Inv σ → RW l K 271 200 mL_law (ZX K b L xs zc zs) 23 [(0, .ref b), (1, .ref (K.2.1 + 0)), (2, .ref (K.2.1 + 249)), (3, .ref (K.2.1 + 270)), (4, .int x5)] [] σ (fun _ _ => True)) : RP l K 271 200 mL_law (ZX K b L xs zc zs) 1290 [(0, .ref b), (1, .ref (K.2.1 + 0)), (2, .ref (K.2.1 + 249)), (3, .ref (K.2.1 + 270)), (4, .int x4)] [] enU (bd chkI pu) := by
  refine RP.gol (lv2 := [(4, .int x5), (0, .ref b), (1, .ref (K.2.1 + 0)), (2, .ref (K.2.1 + 249)), (3, .ref (K.2.1 + 270))]) (fun p e R s m args below meth c H locs ls Q C hl2 w => lv_iinc C.1 C.2.1 dL_law_1290 hl2 (k := 4) rfl hx (by decide) rfl w) ?_
  refine rp_goto 23 dL_law_1293 (by decide) ?_
  refine rp_sub [1, 2, 3, 4, 0] rfl ?_
  intro σ r σ' q
  rw [bd_pu] at q
  exact h σ (chk_inv q)
theorem LC_loop {l : Launch} {K : KK} {b L : Nat} {xs : Nat → Int32} (hl : l.stackTraces = false) (hL : L ≤ 3584) : ∀ (m i zc zs : Nat) (σ : MM), i + m = 513 → Inv σ → zc + m ≤ 1000 → zs + 6 * m ≤ 30000 → RW l K 271 200 mL_law (ZX K b L xs zc zs) 23 [(0, .ref b), (1, .ref (K.2.1 + 0)), (2, .ref (K.2.1 + 249)), (3, .ref (K.2.1 + 270)), (4, .int (nI (7 * i)))] [] σ (fun _ _ => True) := by
  intro m
  induction m with
  | zero =>
    intro i zc zs σ hi hI hz1 hz2
    have hc : Int32.ofNat L - 7 < nI (7 * i) := Classical.byContradiction fun q => by have := lp_c hL (by omega) q; omega
    have hR : RP l K 271 200 mL_law (ZX K b L xs zc zs) 23 [(0, .ref b), (1, .ref (K.2.1 + 0)), (2, .ref (K.2.1 + 249)), (3, .ref (K.2.1 + 270)), (4, .int (nI (7 * i)))] [] enU (bd (if Int32.ofNat L - 7 < nI (7 * i) then pu () else fl) pu) := by
      refine rp_iload 4 dL_law_23 rfl ?_
      refine rp_aload_n 0 dL_law_25 rfl ?_
      refine rp_slen dL_law_26 ?_
      refine rp_bipush (7 : Int32) dL_law_27 (by decide) ?_
      refine rp_isub dL_law_29 ?_
      refine rp_icmp_gt 1296 dL_law_30 (by decide) ?_ rp_fl
      refine rp_iconst (1 : Int32) dL_law_1296 (by decide) ?_
      exact rp_lend (by omega) (by omega) rfl rfl dL_law_1297
    exact hR σ () σ (by rw [if_pos hc]; rfl)
  | succ m ih =>
    intro i zc zs σ hi hI hz1 hz2
    by_cases hc : Int32.ofNat L - 7 < nI (7 * i)
    · have hR : RP l K 271 200 mL_law (ZX K b L xs zc zs) 23 [(0, .ref b), (1, .ref (K.2.1 + 0)), (2, .ref (K.2.1 + 249)), (3, .ref (K.2.1 + 270)), (4, .int (nI (7 * i)))] [] enU (bd (if Int32.ofNat L - 7 < nI (7 * i) then pu () else fl) pu) := by
        refine rp_iload 4 dL_law_23 rfl ?_
        refine rp_aload_n 0 dL_law_25 rfl ?_
        refine rp_slen dL_law_26 ?_
        refine rp_bipush (7 : Int32) dL_law_27 (by decide) ?_
        refine rp_isub dL_law_29 ?_
        refine rp_icmp_gt 1296 dL_law_30 (by decide) ?_ rp_fl
        refine rp_iconst (1 : Int32) dL_law_1296 (by decide) ?_
        exact rp_lend (by omega) (by omega) rfl rfl dL_law_1297
      exact hR σ () σ (by rw [if_pos hc]; rfl)
    · have h7 := lp_c hL (by omega) hc
      have hx : nI (7 * i) + 7 = nI (7 * (i + 1)) := by
        show nI (7 * i) + nI 7 = _
        rw [nI_add]
        exact congrArg nI (by omega)
      have hc7 : ∀ c, nI (7 * i) + Int32.ofNat c = nI (7 * i + c) := fun c => nI_add (7 * i) c
      have hR : RP l K 271 200 mL_law (ZX K b L xs zc zs) 23 [(0, .ref b), (1, .ref (K.2.1 + 0)), (2, .ref (K.2.1 + 249)), (3, .ref (K.2.1 + 270)), (4, .int (nI (7 * i)))] [] enU (bd (if Int32.ofNat L - 7 < nI (7 * i) then fl else tsw ((fun c => xs (7 * i + c)) 0 &&& 63) csL (tsL (fun c => xs (7 * i + c))) chkI) pu) := by
        refine rp_iload 4 dL_law_23 rfl ?_
        refine rp_aload_n 0 dL_law_25 rfl ?_
        refine rp_slen dL_law_26 ?_
        refine rp_bipush (7 : Int32) dL_law_27 (by decide) ?_
        refine rp_isub dL_law_29 ?_
        refine rp_icmp_gt 1296 dL_law_30 (by decide) rp_fl ?_
        refine LC_body (q := fun c => xs (7 * i + c)) hl (by omega) (by omega) (LC_next hx (fun τ hτ => ih (i + 1) zc zs τ (by omega) hτ (by omega) (by omega))) (LC_next hx (fun τ hτ => ih (i + 1) (zc + 1) (zs + 6) τ (by omega) hτ (by omega) (by omega))) (fun c h => ?_) (fun c h => ?_) ?_ ?_
        · rw [hc7]; exact nI_in (by omega) (by omega)
        · rw [hc7, nI_clamp (by omega)]
        · exact nI_in (by omega) (by omega)
        · rw [nI_clamp (by omega)]; rfl
      obtain ⟨τ, e1, -⟩ := okT (x := (fun c => xs (7 * i + c)) 0 &&& 63) ⟨σ, chk_ok σ hI, hI⟩ csL (tsL (fun c => xs (7 * i + c))) (ok_all hI _)
      exact hR σ () τ (by rw [if_neg hc, bd_pu]; exact e1)
