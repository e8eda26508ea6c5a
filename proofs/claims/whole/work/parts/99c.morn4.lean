/-! ===== a morning's reading, from its start ===== -/
theorem morn_ex {Q : TA} {T : TW} {N : NM} (vQ : VTa Q) (hT : VTn T) (hN : VNa T N) : ∃ (E n : Nat) (P : TO), (E < 20000 ∧ (E = 0 → n = P.1 ∧ VPl T P)) ∧ (∀ σ, CTa Q σ → CNm T N σ → wp (FX3_readFrom 33 1 3) σ (fun x τ => x = nI E ∧ τ.1 1 1 = 0 ∧ (E = 0 → DCp P τ) ∧ (∀ b j, ¬ (b = 1 ∨ (33 ≤ b ∧ b ≤ 37)) → τ.1 b j = σ.1 b j) ∧ ∀ b j, b ≠ 1 → τ.2.1 b j = σ.2.1 b j)) ∧ ∀ (σ : MM) (β : Type) (K : Int32 → PP β) (Z : β → MM → Prop), MTa Q σ → (∀ i, i < 23 → σ.2.1 254 i = wtb.getD i 0) → MNb 258 260 18 T N σ → (∀ τ, τ.1 249 8 = nI E → τ.1 249 2 = 0 → (E = 0 → DMp P τ) → (∀ b j, ¬ ((b = 249 ∧ (j = 0 ∨ j = 2 ∨ j = 3 ∨ j = 7 ∨ j = 8)) ∨ b = 251 ∨ b = 252 ∨ (b = 262 ∧ 165 ≤ j)) → τ.1 b j = σ.1 b j) → (∀ b j, b ≠ 253 → τ.2.1 b j = σ.2.1 b j) → wp (K (nI n)) τ Z) → wp (bd (sI 249 0 (0 : Int32)) (fun (_ : Unit) => bd (FX12_cutAll 249) (fun (_ : Unit) => bd (it moM FU (0 : Int32)) K))) σ Z := by
  obtain ⟨m, m1, m2, m3⟩ := tkm_ex vQ
  have hm : m ≤ 1000 := Nat.le_trans m1 vQ.1
  have hend : yT Q (tp Q m) = 0 := yT_0 (by omega)
  obtain ⟨t, E, n, P, ⟨p1, p2⟩, pC, pM⟩ := mo_loop (N := N) vQ hm hend (fun t ht => yT_n0 (m3 t ht)) hT hN m 0 (0, fun _ _ => 0) 0 ⟨by show 0 ≤ 40; decide, fun i hi => absurd hi (by show ¬ i < 0; omega)⟩ (by omega) (by omega) (by omega)
  have hFU := FU_ge
  refine ⟨E, n, P, ⟨p1, p2⟩, fun σ hQ hC => ?_, fun σ β K Z hQ hw hM h => ?_⟩
  · unfold FX3_readFrom FX5_startReading FX5_endReading
    refine ws_s (bd_asw (ws_s (bd_asw (ws_s ?_))))
    have q2 : eqr (fun b j => (b = 33 ∧ j = 4) ∨ (b = 1 ∧ (j = 6 ∨ j = 8))) σ (up2 (up2 (up2 σ.1 33 4 0) 1 6 0) 1 8 0, σ.2) := eqr_tr (eqr_up (by omega)) (eqr_tr (eqr_up (σ := (up2 σ.1 33 4 0, σ.2)) (by omega)) (eqr_up (σ := (up2 (up2 σ.1 33 4 0) 1 6 0, σ.2)) (by omega)))
    have e2 : ((up2 (up2 (up2 σ.1 33 4 0) 1 6 0) 1 8 0, σ.2) : MM).1 1 8 = nI 0 ∧ ((up2 (up2 (up2 σ.1 33 4 0) 1 6 0) 1 8 0, σ.2) : MM).1 1 6 = nI 0 ∧ ((up2 (up2 (up2 σ.1 33 4 0) 1 6 0) 1 8 0, σ.2) : MM).1 33 4 = nI 0 := ⟨mm_at, (mm_ne (by omega)).trans up2_at, (mm_ne (by omega)).trans ((up2_ne (by omega)).trans up2_at)⟩
    revert q2 e2
    generalize ((up2 (up2 (up2 σ.1 33 4 0) 1 6 0) 1 8 0, σ.2) : MM) = τ2
    intro q2 e2
    have hQ2 : CTa Q τ2 := ⟨(q2.1 _ _ (by omega)).trans hQ.1, fun i hi => (q2.1 _ _ (by omega)).trans (hQ.2 i hi)⟩
    refine bd_asw (wp_bd (c_advance (i := 0) vQ hQ2 (by omega) e2.1) ?_)
    rintro _ τ3 ⟨k1, k2, k3⟩
    refine wp_eq (show pu () τ3 = some ((), τ3) from rfl) ?_
    have s3 : SC Q 0 0 τ3 := ⟨CTa_f k3 hQ2, k2.trans e2.2.1, fun _ => k1, fun n => absurd rfl n⟩
    have e3 : ∀ b j, ¬ (b = 1 ∨ (b = 33 ∧ j = 4)) → τ3.1 b j = σ.1 b j := fun b j n => (k3.1 b j (by omega)).trans (q2.1 b j (by omega))
    have l3 : ∀ b j, b ≠ 1 → τ3.2.1 b j = σ.2.1 b j := fun b j n => by rw [k3.2.2 b j n, q2.2]
    refine wp_bd (pC τ3 FU (by omega) s3 ⟨(e3 _ _ (by omega)).trans hC.1, (e3 _ _ (by omega)).trans hC.2.1, fun r hr i hi => (l3 _ _ (by omega)).trans (hC.2.2 r hr i hi)⟩ ⟨(k3.1 _ _ (by decide)).trans e2.2.2, fun i hi => absurd hi (by show ¬ i < 0; omega)⟩) ?_
    rintro _ τ4 ⟨s4, d4, f4⟩
    refine bd_asw (ws_s (bd_asw (ws_gv (x := nI E) ((mm_ne (by omega)).trans s4.2.1) ?_)))
    refine wp_eq (show pu (nI E) _ = some (_, _) from rfl) (wp_pu ⟨rfl, mm_at, fun z => ?_, fun b j n => ?_, fun b j n => ?_⟩)
    · obtain ⟨u1, u2⟩ := d4 z
      refine ⟨(mm_ne (by omega)).trans u1, fun i hi => ?_⟩
      obtain ⟨w1, w2, w3⟩ := u2 i hi
      exact ⟨(mm_ne (by omega)).trans w1, fun q => (mm_ne (by omega)).trans (w2 q), fun q => ⟨(mm_ne (by omega)).trans (w3 q).1, (mm_ne (by omega)).trans (w3 q).2⟩⟩
    · exact (mm_ne (by omega)).trans ((f4.1 b j (by omega)).trans (e3 b j (by omega)))
    · show τ4.2.1 b j = σ.2.1 b j
      rw [f4.2 b j n, l3 b j n]
  · refine ws_s ?_
    have q0 : eqr (fun b j => b = 249 ∧ j = 0) σ (up2 σ.1 249 0 0, σ.2) := eqr_up (by omega)
    revert q0
    generalize ((up2 σ.1 249 0 0, σ.2) : MM) = τ0
    intro q0
    refine wp_bd (m_cutAll vQ (σ := τ0) ⟨(q0.1 _ _ (by omega)).trans hQ.1, fun i hi => (q0.1 _ _ (by omega)).trans (hQ.2 i hi)⟩) ?_
    rintro _ τ1 ⟨⟨m', hk⟩, h7, h8, hz, f1⟩
    have em : m' = m := tkm_u hk.2.1 hk.2.2.1 m2 m3
    subst em
    have ncu : ∀ b j, ¬ (b = 251 ∨ b = 252 ∨ (b = 249 ∧ (j = 2 ∨ j = 3 ∨ j = 7 ∨ j = 8))) → ¬ Rcu b j := fun b j n q => n (by unfold Rcu at q; exact q)
    have s1 : SM Q m' 0 0 τ1 := ⟨hk, fun i hi => by rw [f1.2 254 i (by decide), q0.2]; exact hw i hi, by omega, h7, h8⟩
    have hM1 : MNb 258 260 18 T N τ1 := by
      obtain ⟨g1, K2, g2, g3⟩ := hM
      refine ⟨(f1.1 _ _ (ncu _ _ (by omega))).trans ((q0.1 _ _ (by omega)).trans g1), K2, fun k hk => ?_, g3⟩
      rw [f1.2 258 k (by decide), q0.2, f1.1 260 k (ncu _ _ (by omega)), q0.1 260 k (by omega)]
      exact g2 k hk
    refine wp_bd (pM τ1 FU (by omega) s1 hM1 (fun i hi => absurd hi (by show ¬ i < 0; omega))) ?_
    rintro x τ4 ⟨rfl, s4, d4, f4⟩
    have nR : ∀ b j, ¬ ((b = 249 ∧ (j = 7 ∨ j = 8)) ∨ (b = 262 ∧ 165 ≤ j)) → ¬ RPm b j := fun b j n q => n (by unfold RPm at q; exact q)
    refine h τ4 s4.2.2.2.2 ((f4.1 _ _ (nR _ _ (by omega))).trans hz) d4 (fun b j n => ?_) (fun b j n => ?_)
    · exact (f4.1 b j (nR _ _ (by omega))).trans ((f1.1 b j (ncu _ _ (by omega))).trans (q0.1 b j (by omega)))
    · rw [f4.2, f1.2 b j n, q0.2]
