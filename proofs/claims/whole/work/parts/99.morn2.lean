/-! ===== a morning read: one line more ===== -/
noncomputable def moC (s2 : Int32) : PP (Int32 ⊕ Unit) := if (1000 : Int32) ≤ s2 then pu (Sum.inr ()) else bd (gI 1 2) (fun x3 => if x3 = 0 then pu (Sum.inr ()) else bd (gW) (fun x4 => bd (FX3_deedOf x4) (fun x5 => bd (if x5 = (-1 : Int32) then bd (FX5_fail 1 (1 : Int32)) (fun (_ : Unit) => pu ()) else bd (gI 33 4) (fun x6 => if x6 < (40 : Int32) then bd (FX3_readRow 33 1 3 x5) (fun (_ : Unit) => pu ()) else bd (FX5_fail 1 (5 : Int32)) (fun (_ : Unit) => pu ())) : PP (Unit)) (fun (v10 : Unit) => lt (s2 + (1 : Int32)) (fun y11 => pu (Sum.inl y11))))))
noncomputable def moM (s2 : Int32) : PP (Int32 ⊕ Int32) := bd (gI 249 8) (fun x3 => if x3 = 0 then bd (gI 249 7) (fun x4 => bd (aI 251 1002 x4) (fun x5 => if x5 = 0 then pu (Sum.inr s2) else bd (FX12_wordHere 249 (8 : Int32) (4 : Int32)) (fun x6 => bd (if 0 ≤ x6 then if s2 = (40 : Int32) then bd (FX12_wrong 249 (5 : Int32)) (fun (_ : Unit) => pu s2) else rwM s2 x6 else bd (FX12_wrong 249 (1 : Int32)) (fun (_ : Unit) => pu s2) : PP (Int32)) (fun (v18 : Int32) => bd (FX12_takeSign 249 (59 : Int32)) (fun (_ : Unit) => pu (Sum.inl v18)))))) else pu (Sum.inr s2))
theorem mo_step {Q : TA} {T : TW} {N : NM} {m t : Nat} {P : TO} (vQ : VTa Q) (hend : yT Q (tp Q m) = 0) (hT : VTn T) (hN : VNa T N) (hP : VPl T P) (ht : t < m) (hy : ¬ yT Q (tp Q t) = 0) : ∃ (t' E' n' : Nat) (P' : TO), (E' < 20000 ∧ t ≤ t' ∧ t' ≤ m ∧ (E' = 0 → t < t' ∧ n' = P'.1 ∧ VPl T P')) ∧ (∀ σ (i : Nat), i < 1000 → SC Q t 0 σ → CNm T N σ → DCp P σ → wp (moC (nI i)) σ (fun r τ => r = .inl (nI (i + 1)) ∧ SC Q t' E' τ ∧ (E' = 0 → DCp P' τ) ∧ FPc σ τ)) ∧ ∀ σ, SM Q m t 0 σ → MNb 258 260 18 T N σ → DMp P σ → wp (moM (nI P.1)) σ (fun r τ => r = .inl (nI n') ∧ SM Q m t' E' τ ∧ (E' = 0 → DMp P' τ) ∧ eqr RPm σ τ) := by
  have h40 := hP.1
  obtain ⟨W, hW⟩ := kw_ex Q 8 t 0
  have cO : ∀ (σ : MM) (i : Nat) (Z : (Int32 ⊕ Unit) → MM → Prop), i < 1000 → SC Q t 0 σ → wp (bd (if oI W.1 (-1) = (-1 : Int32) then bd (FX5_fail 1 (1 : Int32)) (fun (_ : Unit) => pu ()) else bd (gI 33 4) (fun x6 => if x6 < (40 : Int32) then bd (FX3_readRow 33 1 3 (oI W.1 (-1))) (fun (_ : Unit) => pu ()) else bd (FX5_fail 1 (5 : Int32)) (fun (_ : Unit) => pu ())) : PP (Unit)) (fun (v10 : Unit) => lt (nI i + (1 : Int32)) (fun y11 => (pu (Sum.inl y11) : PP (Int32 ⊕ Unit))))) σ Z → wp (moC (nI i)) σ Z := by
    intro σ i Z hi hS h
    unfold moC
    rw [if_neg (show ¬ (1000 : Int32) ≤ nI i from nle_n (b := 1000) hi (by decide))]
    refine ws_gv (SC_k hS) ?_
    rw [if_pos rfl, if_neg (fun q => hy (kd_0.mp q))]
    exact ws_gW (SC_w hS) (wp_eq (c_deedOf hW) h)
  have mO : ∀ (σ : MM) (Z : (Int32 ⊕ Int32) → MM → Prop), SM Q m t 0 σ → wp (bd (if 0 ≤ whF Q 0 8 t 4 then if nI P.1 = (40 : Int32) then bd (FX12_wrong 249 (5 : Int32)) (fun (_ : Unit) => pu (nI P.1)) else rwM (nI P.1) (whF Q 0 8 t 4) else bd (FX12_wrong 249 (1 : Int32)) (fun (_ : Unit) => pu (nI P.1)) : PP (Int32)) (fun (v18 : Int32) => bd (FX12_takeSign 249 (59 : Int32)) (fun (_ : Unit) => (pu (Sum.inl v18) : PP (Int32 ⊕ Int32))))) σ Z → wp (moM (nI P.1)) σ Z := by
    intro σ Z hS h
    obtain ⟨hm1, hm2⟩ := SM_m vQ hS
    have y4 := yT_4 (Q := Q) (i := tp Q t)
    unfold moM
    refine ws_gv hS.2.2.2.2 ?_
    rw [if_pos (show nI 0 = 0 from rfl)]
    refine ws_gv hS.2.2.2.1 (ws_a (by omega) (by decide) (hS.1.2.2.2 t hS.2.2.1).1 ?_)
    rw [if_neg (nI_ne0 (by omega) (by omega))]
    exact wp_eq (m_wordHere (f := 8) (n := 4) vQ (by decide) (by decide) hS) h
  have bad : ∀ (k : Nat), 0 < k → k < 10 → ∀ (σ : MM), SM Q m t 0 σ → wp (bd (bd (FX12_wrong 249 (nI k)) (fun (_ : Unit) => pu (nI P.1))) (fun (v18 : Int32) => bd (FX12_takeSign 249 (59 : Int32)) (fun (_ : Unit) => (pu (Sum.inl v18) : PP (Int32 ⊕ Int32))))) σ (fun r τ => r = .inl (nI P.1) ∧ SM Q m t (fc Q k t) τ ∧ eqr RPm σ τ) := by
    intro k k1 k2 σ hS
    have nk := fc_ne (Q := Q) (k := k) (t := t) k1
    refine bd_asw (wp_bd (m_wrong (k := k) vQ (by decide) hS) (fun _ τ q => ?_))
    have hf : fE Q k t 0 = fc Q k t := rfl
    rw [hf] at q
    refine wp_eq (show pu (nI P.1) τ = some (_, τ) from rfl) (wp_bd (m_takeSign vQ (fc_lt vQ k2) q.1 59) (fun _ τ2 q2 => wp_pu ?_))
    rw [st1_d nk] at q2
    exact ⟨rfl, q2.1, Rat_pm (eqr_tr q.2 q2.2)⟩
  have cbad : ∀ (k : Nat), 0 < k → ∀ (σ : MM) (i : Nat), SC Q t 0 σ → wp (bd (bd (FX5_fail 1 (nI k)) (fun (_ : Unit) => pu ())) (fun (v10 : Unit) => lt (nI i + (1 : Int32)) (fun y11 => (pu (Sum.inl y11) : PP (Int32 ⊕ Unit))))) σ (fun r τ => r = .inl (nI (i + 1)) ∧ SC Q t (fc Q k t) τ ∧ FPc σ τ) := by
    intro k k1 σ i hS
    refine bd_asw (wp_bd (c_fail (k := k) k1 (by decide) hS) (fun _ τ q => ?_))
    refine wp_eq (show pu () τ = some ((), τ) from rfl) ?_
    rw [lt_eq, nI_1]
    exact wp_pu ⟨rfl, q.1, FPc_t q.2⟩
  rcases hW with ⟨h, rfl⟩ | ⟨_, hw, rfl⟩ | ⟨d, hd, _, hw, rfl⟩
  · exact absurd rfl h
  · have n1 := fc_ne (Q := Q) (k := 1) (t := t) (by decide)
    refine ⟨t, fc Q 1 t, P.1, P, ⟨fc_lt vQ (by decide), Nat.le_refl t, Nat.le_of_lt ht, fun z => absurd z n1⟩, fun σ i hi hS hC hD => cO σ i _ hi hS ?_, fun σ hS hM hD => mO σ _ hS ?_⟩
    · rw [if_pos (show oI none (-1) = -1 from rfl)]
      exact wp_mono (cbad 1 (by decide) σ i hS) (fun r τ q => ⟨q.1, q.2.1, fun z => absurd z n1, q.2.2⟩)
    · rw [wh_none (by decide) hw, if_neg (by decide)]
      exact wp_mono (bad 1 (by decide) (by decide) σ hS) (fun r τ q => ⟨q.1, q.2.1, fun z => absurd z n1, q.2.2⟩)
  · by_cases hf : P.1 = 40
    · have n5 := fc_ne (Q := Q) (k := 5) (t := t) (by decide)
      refine ⟨t, fc Q 5 t, P.1, P, ⟨fc_lt vQ (by decide), Nat.le_refl t, Nat.le_of_lt ht, fun z => absurd z n5⟩, fun σ i hi hS hC hD => cO σ i _ hi hS ?_, fun σ hS hM hD => mO σ _ hS ?_⟩
      · rw [show oI (some d) (-1) = nI d from rfl, if_neg (nI_n1 (by omega))]
        refine bd_asw (ws_gv hD.1 ?_)
        rw [if_neg (show ¬ nI P.1 < 40 by rw [hf]; decide)]
        exact wp_mono (cbad 5 (by decide) σ i hS) (fun r τ q => ⟨q.1, q.2.1, fun z => absurd z n5, q.2.2⟩)
      · rw [wh_some (by decide) (by decide) hd hw, if_pos (nI_pos' (by omega)), if_pos (show nI P.1 = 40 by rw [hf]; rfl)]
        exact wp_mono (bad 5 (by decide) (by decide) σ hS) (fun r τ q => ⟨q.1, q.2.1, fun z => absurd z n5, q.2.2⟩)
    · obtain ⟨t', E', P', ⟨p1, p2, p3, p4⟩, pC, pM⟩ := pr_row (d := d) vQ hend hT hN hP (by omega) hd ht
      refine ⟨t', E', P.1 + 1, P', ⟨p1, by omega, p3, fun z => ⟨p2, (p4 z).1.symm, (p4 z).2⟩⟩, fun σ i hi hS hC hD => cO σ i _ hi hS ?_, fun σ hS hM hD => mO σ _ hS ?_⟩
      · rw [show oI (some d) (-1) = nI d from rfl, if_neg (nI_n1 (by omega))]
        refine bd_asw (ws_gv hD.1 ?_)
        rw [if_pos (show nI P.1 < 40 from nIlt (b := 40) (by omega) (by decide))]
        refine bd_asw (wp_bd (pC σ hS hC hD) (fun _ τ q => ?_))
        refine wp_eq (show pu () τ = some ((), τ) from rfl) ?_
        rw [lt_eq, nI_1]
        exact wp_pu ⟨rfl, q⟩
      · rw [wh_some (by decide) (by decide) hd hw, if_pos (nI_pos' (by omega)), if_neg (show ¬ nI P.1 = 40 from fun q => hf ((nI_eq (b := 40) (by omega) (by decide)).mp q))]
        obtain ⟨x, τ, e, rfl, q⟩ := pM σ hS hM hD
        refine ⟨.inl (nI (P.1 + 1)), τ, ?_, rfl, q⟩
        have e' : bd (bd (rwM (nI P.1) (nI d)) (fun v18 => bd (FX12_takeSign 249 (59 : Int32)) (fun (_ : Unit) => pu v18))) (fun v => (pu (Sum.inl v) : PP (Int32 ⊕ Int32))) σ = some (.inl (nI (P.1 + 1)), τ) := (ev_bd e).trans rfl
        rw [← e']
        simp only [bd_as]
        rfl
