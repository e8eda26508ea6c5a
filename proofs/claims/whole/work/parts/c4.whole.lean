/-! ===== the law from its entry ===== -/
def EL (K : KK) (b L : Nat) (xs : Nat → Int32) : EQ := fun R below args s => (ZX K b L xs 0 0).2.2 R below args s (fun _ _ => True)
theorem ful271 : fulB 271 tX12 = true := by decide +kernel
set_option maxHeartbeats 4000000 in
set_option maxRecDepth 100000 in
theorem law_rn {l : Launch} {K : KK} {b L : Nat} {xs : Nat → Int32} (hl : l.stackTraces = false) (hL : L ≤ 3584) : RN l K 0 200 271 15756 mL_law (EL K b L xs) 0 [(0, .ref b)] [] 0 0 σ00 τ0 := by
  obtain ⟨σ1, σ2, h1, h2, hI, hF⟩ := st_ex
  have hR : RN l K 0 200 271 15756 mL_law (EL K b L xs) 23 [(0, .ref b), (1, .ref (K.2.1 + 0)), (2, .ref (K.2.1 + 249)), (3, .ref (K.2.1 + 270)), (4, .int 0)] [] 271 15756 σ2 tX12 := by
    intro p e R s m args below meth c C H locs ls hP hS hl2
    have hW := LC_loop (K := K) (b := b) (L := L) (xs := xs) hl hL 513 0 271 15756 σ2 rfl hI (by decide) (by decide)
    rw [show nI (7 * 0) = 0 from nI_0] at hW
    exact hW p e R s m args below meth c ⟨C.1, C.2.1, C.2.2.1, C.2.2.2.1, C.2.2.2.2.1, C.2.2.2.2.2.1, C.2.2.2.2.2.2.1, C.ku, ⟨C.rm.1, C.rm.2.1, C.rm.2.2.1, C.rm.2.2.2⟩, by decide⟩ H locs ls ((wq_wl (n := 271) ful271).mp hP) hS hl2
  refine rn_new (idx := 8) (ci := 10) (N := 12) kcX11 (by decide) rfl (mw (i := 27) (by decide +kernel)) (by decide +kernel) fr00 (by decide) (by decide) dL_law_0 ?_
  refine rn_dup dL_law_3 rfl ?_
  refine rn_call (b := 0) (mc := 248) (ms := 4707) (d' := 4) [] (IX11 fr00) ccX11_init imX11_init rfl (mw (i := 29) (by decide +kernel)) (by decide) rfl rfl (Nat.le_of_ble_eq_true rfl) dL_law_4 (by decide) (by decide) ?_
  refine rn_astore_n [(1, .ref (K.2.1 + 0)), (0, .ref b)] dL_law_7 (by decide) rfl ?_
  refine rn_new (idx := 16) (ci := 11) (N := 31) kcX12 (by decide) rfl (mw (i := 1266) (by decide +kernel)) (by decide +kernel) (frX11 fr00) (by decide) (by decide) dL_law_8 ?_
  refine rn_dup dL_law_11 rfl ?_
  refine rn_call (b := 249) (mc := 20) (ms := 11005) (d' := 30) [] (IX12 ((frX11 fr00).mono (by decide)) h1 h2) ccX12_init imX12_init rfl (mw (i := 1267) (by decide +kernel)) (by decide) rfl rfl (Nat.le_of_ble_eq_true rfl) dL_law_12 (by decide) (by decide) ?_
  refine rn_astore_n [(2, .ref (K.2.1 + 249)), (1, .ref (K.2.1 + 0)), (0, .ref b)] dL_law_15 (by decide) rfl ?_
  refine rn_iconst (1 : Int32) dL_law_16 (by decide) ?_
  refine rn_newa (t := 1) (N := 1) (by decide) (mw (i := 103) (by decide +kernel)) (by decide +kernel) hF (by decide) (by decide) (by decide) (by decide) (by decide) dL_law_17 ?_
  refine rn_astore_n [(3, .ref (K.2.1 + 270)), (2, .ref (K.2.1 + 249)), (1, .ref (K.2.1 + 0)), (0, .ref b)] dL_law_19 (by decide) rfl ?_
  refine rn_iconst (0 : Int32) dL_law_20 (by decide) ?_
  refine rn_istore [(4, .int 0), (3, .ref (K.2.1 + 270)), (2, .ref (K.2.1 + 249)), (1, .ref (K.2.1 + 0)), (0, .ref b)] dL_law_21 (by decide) rfl ?_
  exact rn_sub [4, 3, 2, 1, 0] rfl hR
theorem whole_start {p : Program} {e : Env} {s : State} {m : MethodId} {below : List Frame} {meth : Method} {c : Code} (l : Launch) (hl : l.stackTraces = false) {b L : Nat} {xs : Nat → Int32} (hL : L ≤ 3584) (C0 : lw_At p s m meth c b L xs) : W p l e room_1 s m #[Value.ref b] below meth c s.heap [] 0 0 (lw_Z below #[Value.ref b] s) (entryFrame m ([Value.ref b] : List Value).toArray 7) := by
  obtain ⟨hx, hb, hr, hml, hown, hts, hX, hbl, hlocks, hgv, hcw⟩ := C0
  obtain ⟨K, hK, hKU⟩ := ku_start hts hgv
  have hw : ∀ w ∈ mws mL_law, w.before #[Value.ref b] s = true := fun w q => by
    rcases List.mem_cons.mp q with rfl | q
    · exact hcw
    · exact hts w (tb_lg w q)
  have hC : CN K 0 200 271 15756 mL_law p room_1 s m #[Value.ref b] meth c := ⟨hx, hb, hr, hml, hown, hw, hlocks, hKU, ⟨by decide, by decide, by decide, by decide⟩, ku_ao hts, by rw [hK]; rfl, fun q => absurd q (by decide)⟩
  have hl2 : lv_has _ 7 [(0, .ref b)] := lv_entry [Value.ref b] (n := 7) (Nat.le_of_ble_eq_true rfl)
  rw [lg_entry_eq]
  have hP : va_P K.1 cl0 (wq K (0 + 0) σ00 τ0) s.heap := fun k q h => by simp [wq] at h
  have hW := law_rn (xs := xs) hl hL p e room_1 s m #[Value.ref b] below meth c hC s.heap [] _ hP va_S.rf hl2
  intro T hT X
  obtain ⟨t, a1, b1⟩ := hW T hT X
  rcases b1 with q | q
  · exact absurd ⟨⟨hX, hbl, by rw [hK]; exact Nat.le_refl _⟩, rfl, rfl⟩ q
  · exact ⟨t, a1, q⟩
