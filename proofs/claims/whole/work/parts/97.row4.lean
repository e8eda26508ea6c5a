/-! ===== a line of a morning: read alike ===== -/
noncomputable def rwM (s2 x6 : Int32) : PP Int32 := bd (gI 249 7) (fun x7 => bd (sI 249 7 (x7 + (1 : Int32))) (fun (_ : Unit) => lt ((165 : Int32) + ((4 : Int32) * s2)) (fun y8 => bd (uI 262 330 y8 x6) (fun (_ : Unit) => bd (if (3 : Int32) ≤ x6 then pu (0 : Int32) else bd (FX12_takeTold 249 (0 : Int32) (40 : Int32)) (fun x9 => pu x9) : PP (Int32)) (fun (v10 : Int32) => bd (uI 262 330 (y8 + (1 : Int32)) v10) (fun (_ : Unit) => bd (if x6 = 0 then bd (FX12_takeTold 249 (0 : Int32) (0 : Int32)) (fun x11 => pu x11) else pu (0 : Int32) : PP (Int32)) (fun (v12 : Int32) => bd (uI 262 330 (y8 + (2 : Int32)) v12) (fun (_ : Unit) => bd (if x6 = 0 then bd (FX12_takeNumber 249 (1 : Int32) (3 : Int32)) (fun x13 => pu x13) else pu (0 : Int32) : PP (Int32)) (fun (v14 : Int32) => bd (uI 262 330 (y8 + (3 : Int32)) v14) (fun (_ : Unit) => lt (s2 + (1 : Int32)) (fun y15 => pu y15)))))))))))
theorem pr_row {Q : TA} {T : TW} {N : NM} {m t d : Nat} {P : TO} (vQ : VTa Q) (hend : yT Q (tp Q m) = 0) (hT : VTn T) (hN : VNa T N) (hP : VPl T P) (hn : P.1 < 40) (hd : d < 4) (ht : t < m) : ∃ (t' E' : Nat) (P' : TO), (E' < 20000 ∧ t < t' ∧ t' ≤ m ∧ (E' = 0 → P'.1 = P.1 + 1 ∧ VPl T P')) ∧ (∀ σ, SC Q t 0 σ → CNm T N σ → DCp P σ → wp (FX3_readRow 33 1 3 (nI d)) σ (fun _ τ => SC Q t' E' τ ∧ (E' = 0 → DCp P' τ) ∧ FPc σ τ)) ∧ ∀ σ, SM Q m t 0 σ → MNb 258 260 18 T N σ → DMp P σ → wp (bd (rwM (nI P.1) (nI d)) (fun v18 => bd (FX12_takeSign 249 (59 : Int32)) (fun (_ : Unit) => pu v18))) σ (fun x τ => x = nI (P.1 + 1) ∧ SM Q m t' E' τ ∧ (E' = 0 → DMp P' τ) ∧ eqr RPm σ τ) := by
  obtain ⟨R1, h1⟩ := sg_ex Q T N 2 (decide (¬ d = 3)) (t + 1) 0
  obtain ⟨a1, a2, a3, a4⟩ := sg_m vQ hend (show t + 1 ≤ m from ht) (by decide) h1
  obtain ⟨R2, h2⟩ := sg_ex Q T N 0 (decide (d = 0)) R1.1 R1.2.1
  obtain ⟨b1, b2, b3, b4⟩ := sg_m vQ hend a1 a3 h2
  obtain ⟨R3, hR3⟩ : ∃ R3 : Nat × Nat, R3 = if d = 0 then stN Q 1 3 R2.1 R2.2.1 else (R2.1, R2.2.1) := ⟨_, rfl⟩
  have cc : R3.1 ≤ m ∧ R2.1 ≤ R3.1 ∧ R3.2 < 20000 ∧ (R3.2 = 0 → R2.2.1 = 0 ∧ (d = 0 → 1 ≤ nT Q (tp Q R2.1) ∧ nT Q (tp Q R2.1) ≤ 3)) := by
    by_cases z : d = 0
    · rw [hR3, if_pos z]
      obtain ⟨x1, x2, x3, x4⟩ := stN_m (lo := 1) (hi := 3) vQ hend b1 b3
      exact ⟨x1, x2, x3, fun q => ⟨(x4 q).1, fun _ => (x4 q).2⟩⟩
    · rw [hR3, if_neg z]
      exact ⟨b1, Nat.le_refl _, b3, fun q => ⟨q, fun w => absurd w z⟩⟩
  obtain ⟨c1, c2, c3, c4⟩ := cc
  obtain ⟨R4, hR4⟩ : ∃ R4, R4 = st1 Q (gB Q 59 R3.1) 1 R3.1 R3.2 := ⟨_, rfl⟩
  have dd := st1_m (k := 1) (b := gB Q 59 R3.1) vQ hend (by decide) (fun h => gB_y h) c1 c3
  rw [← hR4] at dd
  obtain ⟨d1, d2, d3, d4⟩ := dd
  have k3 : (nI d = 3) = (d = 3) := propext (nI_eq (b := 3) (by omega) (by decide))
  have k0 : (nI d = 0) = (d = 0) := propext (nI_eq (b := 0) (by omega) (by decide))
  refine ⟨R4.1, R4.2, rwP P (nI d) R1.2.2 R2.2.2 (if d = 0 then nI (nT Q (tp Q R2.1)) else 0), ⟨d3, by omega, d1, fun z => ⟨rfl, ?_⟩⟩, fun σ hS hC hD => ?_, fun σ hS hM hD => ?_⟩
  · obtain ⟨z1, z2⟩ := c4 (d4 z).1
    obtain ⟨z3, z4⟩ := b4 z1
    obtain ⟨z5, z6⟩ := a4 z3
    refine VPl_rw hP hn hd (fun q => z6 (by simpa using q)) (fun q => ⟨z4 (by simpa using q), nT Q (tp Q R2.1), (z2 q).1, (z2 q).2, by rw [if_pos q]⟩)
  · have fin : ∀ τ, SC Q R3.1 R3.2 τ → FPc σ τ → τ.1 33 4 = nI P.1 → (∀ b j, 34 ≤ b → b ≤ 37 → j < P.1 → τ.1 b j = σ.1 b j) → τ.1 34 P.1 = nI d → (R3.2 = 0 → ¬ d = 3 → τ.1 35 P.1 = R1.2.2) → (R3.2 = 0 → d = 0 → τ.1 36 P.1 = R2.2.2 ∧ τ.1 37 P.1 = nI (nT Q (tp Q R2.1))) → wp (bd (FX5_expectSign 1 (59 : Int32)) (fun (_ : Unit) => bd (gI 33 4) (fun x16 => bd (sI 33 4 (x16 + (1 : Int32))) (fun (_ : Unit) => pu ())))) τ (fun _ τ => SC Q R4.1 R4.2 τ ∧ (R4.2 = 0 → DCp (rwP P (nI d) R1.2.2 R2.2.2 (if d = 0 then nI (nT Q (tp Q R2.1)) else 0)) τ) ∧ FPc σ τ) := by
      intro τ s f e4 hp e0 e1 e2
      refine wp_bd (c_expectSign (c := 59) vQ c3 (by decide) (by decide) (by decide) (by decide) s) ?_
      rintro _ τ2 ⟨s2, f2⟩
      rw [← hR4] at s2
      refine ws_gv ((f2.1 _ _ (by decide)).trans e4) (ws_s (wp_pu ⟨SC_u (by decide) s2, fun z => ?_, FPc_tr f (FPc_tr (FPc_t f2) (FPc_u (by decide)))⟩))
      have z3 := (d4 z).1
      refine DCp_rw hD (fun b j q1 q2 q3 => (mm_ne (by omega)).trans ((f2.1 b j (by omega)).trans (hp b j q1 q2 q3))) (mm_at.trans (nI_1 _)) ((mm_ne (by omega)).trans ((f2.1 _ _ (by decide)).trans e0)) (fun q => (mm_ne (by omega)).trans ((f2.1 _ _ (by decide)).trans (e1 z3 (by rw [k3] at q; exact q)))) (fun q => ?_)
      rw [k0] at q
      rw [if_pos q]
      exact ⟨(mm_ne (by omega)).trans ((f2.1 _ _ (by decide)).trans (e2 z3 q).1), (mm_ne (by omega)).trans ((f2.1 _ _ (by decide)).trans (e2 z3 q).2)⟩
    unfold FX3_readRow
    rw [r33_0, r33_1, r33_2, r33_3, r3_2, r3_0]
    refine ws_gv hD.1 (ws_u hn (by decide) (wp_bd (c_adv vQ (SC_u (by decide) hS)) ?_))
    rintro _ τ1 ⟨s1, f1⟩
    have F1 : FPc σ τ1 := FPc_tr (FPc_u (by decide)) (FPc_t f1)
    have g4 : τ1.1 33 4 = nI P.1 := (f1.1 _ _ (by decide)).trans ((mm_ne (by omega)).trans hD.1)
    have gd : τ1.1 34 P.1 = nI d := (f1.1 _ _ (by decide)).trans mm_at
    have gp : ∀ b j, 34 ≤ b → b ≤ 37 → j < P.1 → τ1.1 b j = σ.1 b j := fun b j q1 q2 q3 => (f1.1 b j (by omega)).trans (mm_ne (by omega))
    have hC1 := CNm_p F1 hC
    -- the second stage and on
    have st2 : ∀ τ, SC Q R1.1 R1.2.1 τ → FPc σ τ → τ.1 33 4 = nI P.1 → (∀ b j, 34 ≤ b → b ≤ 37 → j < P.1 → τ.1 b j = σ.1 b j) → τ.1 34 P.1 = nI d → (R1.2.1 = 0 → ¬ d = 3 → τ.1 35 P.1 = R1.2.2) → wp (bd (if nI d = 0 then bd (gI 33 4) (fun x8 => bd (gI 3 9) (fun x9 => bd (FX5_findName 1 4 x9 5) (fun x10 => bd (uI 36 40 x8 x10) (fun (_ : Unit) => bd (FX5_advance 1) (fun (_ : Unit) => bd (gI 33 4) (fun x12 => bd (FX5_expectNumber 1 (1 : Int32) (3 : Int32)) (fun x13 => bd (uI 37 40 x12 x13) (fun (_ : Unit) => pu ())))))))) else pu () : PP (Unit)) (fun (v14 : Unit) => bd (FX5_expectSign 1 (59 : Int32)) (fun (_ : Unit) => bd (gI 33 4) (fun x16 => bd (sI 33 4 (x16 + (1 : Int32))) (fun (_ : Unit) => pu ()))))) τ (fun _ τ => SC Q R4.1 R4.2 τ ∧ (R4.2 = 0 → DCp (rwP P (nI d) R1.2.2 R2.2.2 (if d = 0 then nI (nT Q (tp Q R2.1)) else 0)) τ) ∧ FPc σ τ) := by
      intro τ s f e4 hp e0 e1
      have hC2 := CNm_p f hC
      refine c_sg (r := 0) (mm := 5) (w := 36) vQ a3 (by decide) hT.1.1 (by decide) hN (by decide) hn (by rw [k0]; simp) hC2.1 e4 hC2.2.2 s h2 (fun ha => ?_) (fun ha τ2 s2 f2 e36 g2 => ?_)
      · have z : ¬ d = 0 := by simpa using ha
        rcases h2 with ⟨_, hh⟩ | ⟨hh, _⟩
        · have e3 : R3 = (R1.1, R1.2.1) := by rw [hR3, if_neg z, hh]
          refine fin τ (by rw [e3]; exact s) f e4 hp e0 (fun q => e1 (by rw [e3] at q; exact q)) (fun _ q => absurd q z)
        · rw [ha] at hh; cases hh
      · have z : d = 0 := by simpa using ha
        have e3 : R3 = stN Q 1 3 R2.1 R2.2.1 := by rw [hR3, if_pos z]
        have n4 : τ2.1 33 4 = nI P.1 := (g2 33 4 (by decide) (by decide) (by omega)).trans e4
        refine bd_asw (ws_gv n4 (bd_asw (wp_bd (c_expectNumber (lo := 1) (hi := 3) vQ b3 (by decide) (by decide) s2) ?_)))
        rintro v τ3 ⟨s3, hv, f3⟩
        rw [← e3] at s3 hv
        refine bd_asw (ws_u hn (by decide) (wp_eq (show pu () _ = some ((), _) from rfl) ?_))
        refine fin _ (SC_u (by decide) s3) (FPc_tr f (FPc_tr f2 (FPc_tr (FPc_t f3) (FPc_u (by decide))))) ((mm_ne (by omega)).trans ((f3.1 _ _ (by decide)).trans n4)) (fun b j q1 q2 q3 => (mm_ne (by omega)).trans ((f3.1 b j (by omega)).trans ((g2 b j (by omega) q2 (by omega)).trans (hp b j q1 q2 q3)))) ((mm_ne (by omega)).trans ((f3.1 _ _ (by decide)).trans ((g2 34 _ (by decide) (by decide) (by omega)).trans e0))) (fun q w => (mm_ne (by omega)).trans ((f3.1 _ _ (by decide)).trans ((g2 35 _ (by decide) (by decide) (by omega)).trans (e1 (b4 (c4 q).1).1 w)))) (fun q _ => ⟨(mm_ne (by omega)).trans ((f3.1 _ _ (by decide)).trans (e36 (c4 q).1)), mm_at.trans (hv q)⟩)
    rw [if_flip (c := nI d = 3)]
    refine c_sg (r := 2) (mm := 6) (w := 35) vQ (by decide) (by decide) hT.1.2.2.1 (by decide) hN (by decide) hn (by rw [k3]; simp) hC1.2.1 g4 hC1.2.2 s1 h1 (fun ha => ?_) (fun ha τ2 s2 f2 e35 g2 => ?_)
    · have z : d = 3 := by simpa using ha
      rcases h1 with ⟨_, hh⟩ | ⟨hh, _⟩
      · refine st2 τ1 (by rw [hh]; exact s1) F1 g4 gp gd (fun _ q => absurd z q)
      · rw [ha] at hh; cases hh
    · refine wp_eq (show pu () τ2 = some ((), τ2) from rfl) (st2 τ2 s2 (FPc_tr F1 f2) ((g2 33 4 (by decide) (by decide) (by omega)).trans g4) (fun b j q1 q2 q3 => (g2 b j (by omega) q2 (by omega)).trans (gp b j q1 q2 q3)) ((g2 34 _ (by decide) (by decide) (by omega)).trans gd) (fun q _ => e35 q))
  · have u262 : ∀ (j : Nat) (x : Int32) (τ : MM), 165 ≤ j → eqr RPm τ (up2 τ.1 262 j x, τ.2) := fun j x τ hj => eqr_up (by unfold RPm; omega)
    have hr : ∀ j, ¬ Rat 262 j := fun j q => by unfold Rat at q; omega
    unfold rwM
    obtain ⟨s1, f1⟩ := SM_1 hS ht
    refine bd_asw (ws_gv hS.2.2.2.1 (bd_asw (ws_s ?_)))
    revert s1 f1
    generalize ((up2 σ.1 249 7 (nI t + (1 : Int32)), σ.2) : MM) = τ1
    intro s1 f1
    rw [lt_eq, show (165 : Int32) + 4 * nI P.1 = nI (165 + 4 * P.1) by rw [show (4 : Int32) = nI 4 from rfl, pk_mul]; exact nI_add 165 _]
    rw [show nI (165 + 4 * P.1) + (1 : Int32) = nI (166 + 4 * P.1) by rw [nI_1]; congr 1; omega, show nI (165 + 4 * P.1) + (2 : Int32) = nI (167 + 4 * P.1) by rw [show (2 : Int32) = nI 2 from rfl, nI_add]; congr 1; omega, show nI (165 + 4 * P.1) + (3 : Int32) = nI (168 + 4 * P.1) by rw [show (3 : Int32) = nI 3 from rfl, nI_add]; congr 1; omega]
    refine bd_asw (ws_u (by omega) (by decide) ?_)
    have s2 := SM_u (j := 165 + 4 * P.1) (x := nI d) s1
    have q2 := eqr_tr (Rat_pm f1) (u262 (165 + 4 * P.1) (nI d) τ1 (by omega))
    have e2 : ((up2 τ1.1 262 (165 + 4 * P.1) (nI d), τ1.2) : MM).1 262 (165 + 4 * P.1) = nI d := mm_at
    have p2 : ∀ j, 165 ≤ j → j < 165 + 4 * P.1 → ((up2 τ1.1 262 (165 + 4 * P.1) (nI d), τ1.2) : MM).1 262 j = σ.1 262 j := fun j h1 h2 => (mm_ne (by omega)).trans (f1.1 _ _ (hr j))
    revert s2 q2 e2 p2
    generalize ((up2 τ1.1 262 (165 + 4 * P.1) (nI d), τ1.2) : MM) = τ2
    intro s2 q2 e2 p2
    rw [if_flip (c := (3 : Int32) ≤ nI d)]
    have hc3 : (¬ (3 : Int32) ≤ nI d) ↔ decide (¬ d = 3) = true := by
      have : ((3 : Int32) ≤ nI d) ↔ 3 ≤ d := nI_leI (a := 3) (by decide) (by omega)
      rw [this]
      simp
      omega
    refine bd_asw (m_sg (r := 2) vQ (by decide) (Or.inr rfl) hT hN hc3 s2 (MNm_p q2 hM) h1 (fun τ3 s3 f3 => ?_))
    refine bd_asw (ws_u (by omega) (by decide) ?_)
    have s4 := SM_u (j := 166 + 4 * P.1) (x := R1.2.2) s3
    have q4 := eqr_tr q2 (eqr_tr (Rat_pm f3) (u262 (166 + 4 * P.1) R1.2.2 τ3 (by omega)))
    have e4 : ((up2 τ3.1 262 (166 + 4 * P.1) R1.2.2, τ3.2) : MM).1 262 (165 + 4 * P.1) = nI d ∧ ((up2 τ3.1 262 (166 + 4 * P.1) R1.2.2, τ3.2) : MM).1 262 (166 + 4 * P.1) = R1.2.2 := ⟨(mm_ne (by omega)).trans ((f3.1 _ _ (hr _)).trans e2), mm_at⟩
    have p4 : ∀ j, 165 ≤ j → j < 165 + 4 * P.1 → ((up2 τ3.1 262 (166 + 4 * P.1) R1.2.2, τ3.2) : MM).1 262 j = σ.1 262 j := fun j h1 h2 => (mm_ne (by omega)).trans ((f3.1 _ _ (hr j)).trans (p2 j h1 h2))
    revert s4 q4 e4 p4
    generalize ((up2 τ3.1 262 (166 + 4 * P.1) R1.2.2, τ3.2) : MM) = τ4
    intro s4 q4 e4 p4
    refine bd_asw (m_sg (r := 0) vQ a3 (Or.inl rfl) hT hN (by rw [k0]; simp) s4 (MNm_p q4 hM) h2 (fun τ5 s5 f5 => ?_))
    refine bd_asw (ws_u (by omega) (by decide) ?_)
    have s6 := SM_u (j := 167 + 4 * P.1) (x := R2.2.2) s5
    have q6 := eqr_tr q4 (eqr_tr (Rat_pm f5) (u262 (167 + 4 * P.1) R2.2.2 τ5 (by omega)))
    have e6 : ((up2 τ5.1 262 (167 + 4 * P.1) R2.2.2, τ5.2) : MM).1 262 (165 + 4 * P.1) = nI d ∧ ((up2 τ5.1 262 (167 + 4 * P.1) R2.2.2, τ5.2) : MM).1 262 (166 + 4 * P.1) = R1.2.2 ∧ ((up2 τ5.1 262 (167 + 4 * P.1) R2.2.2, τ5.2) : MM).1 262 (167 + 4 * P.1) = R2.2.2 := ⟨(mm_ne (by omega)).trans ((f5.1 _ _ (hr _)).trans e4.1), (mm_ne (by omega)).trans ((f5.1 _ _ (hr _)).trans e4.2), mm_at⟩
    have p6 : ∀ j, 165 ≤ j → j < 165 + 4 * P.1 → ((up2 τ5.1 262 (167 + 4 * P.1) R2.2.2, τ5.2) : MM).1 262 j = σ.1 262 j := fun j h1 h2 => (mm_ne (by omega)).trans ((f5.1 _ _ (hr j)).trans (p4 j h1 h2))
    revert s6 q6 e6 p6
    generalize ((up2 τ5.1 262 (167 + 4 * P.1) R2.2.2, τ5.2) : MM) = τ6
    intro s6 q6 e6 p6
    -- the number, the sign
    have fin : ∀ (v : Int32) (τ7 : MM), SM Q m R3.1 R3.2 τ7 → eqr Rat τ6 τ7 → (R3.2 = 0 → v = if d = 0 then nI (nT Q (tp Q R2.1)) else 0) → wp (bd (bd (uI 262 330 (nI (168 + 4 * P.1)) v) (fun (_ : Unit) => lt (nI P.1 + (1 : Int32)) (fun y15 => (pu y15 : PP Int32)))) (fun v18 => bd (FX12_takeSign 249 (59 : Int32)) (fun (_ : Unit) => pu v18))) τ7 (fun x τ => x = nI (P.1 + 1) ∧ SM Q m R4.1 R4.2 τ ∧ (R4.2 = 0 → DMp (rwP P (nI d) R1.2.2 R2.2.2 (if d = 0 then nI (nT Q (tp Q R2.1)) else 0)) τ) ∧ eqr RPm σ τ) := by
      intro v τ7 s7 f7 hv
      refine bd_asw (ws_u (by omega) (by decide) ?_)
      rw [lt_eq, nI_1]
      refine wp_eq (show pu (nI (P.1 + 1)) _ = some (_, _) from rfl) (wp_bd (m_takeSign vQ c3 (SM_u s7) 59) ?_)
      rintro _ τ8 ⟨s8, f8⟩
      rw [← hR4] at s8
      refine wp_pu ⟨rfl, s8, fun z => ?_, eqr_tr q6 (eqr_tr (Rat_pm f7) (eqr_tr (u262 (168 + 4 * P.1) v τ7 (by omega)) (Rat_pm f8)))⟩
      have z3 := (d4 z).1
      refine DMp_rw hD (fun j h1 h2 => (f8.1 _ _ (hr j)).trans ((mm_ne (by omega)).trans ((f7.1 _ _ (hr j)).trans (p6 j h1 h2)))) ((f8.1 _ _ (hr _)).trans ((mm_ne (by omega)).trans ((f7.1 _ _ (hr _)).trans e6.1))) ((f8.1 _ _ (hr _)).trans ((mm_ne (by omega)).trans ((f7.1 _ _ (hr _)).trans e6.2.1))) ((f8.1 _ _ (hr _)).trans ((mm_ne (by omega)).trans ((f7.1 _ _ (hr _)).trans e6.2.2))) ((f8.1 _ _ (hr _)).trans (mm_at.trans (hv z3)))
    by_cases z : d = 0
    · rw [if_pos (show nI d = 0 by rw [k0]; exact z)]
      have e3 : R3 = stN Q 1 3 R2.1 R2.2.1 := by rw [hR3, if_pos z]
      refine bd_asw (bd_asw (wp_bd (m_takeNumber (lo := 1) (hi := 3) vQ b3 (by decide) (by decide) s6) ?_))
      rintro v τ7 ⟨s7, hv, f7⟩
      rw [← e3] at s7 hv
      refine wp_eq (show pu v τ7 = some (_, τ7) from rfl) (fin v τ7 s7 f7 (fun q => ?_))
      rw [if_pos z]; exact hv q
    · rw [if_neg (show ¬ nI d = 0 by rw [k0]; exact z)]
      have e3 : R3 = (R2.1, R2.2.1) := by rw [hR3, if_neg z]
      refine bd_asw (wp_eq (show pu (0 : Int32) τ6 = some (_, τ6) from rfl) (fin 0 τ6 (by rw [e3]; exact s6) eqr_rf (fun _ => ?_)))
      rw [if_neg z]
