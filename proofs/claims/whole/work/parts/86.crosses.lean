/-! ===== a crossing told ===== -/
theorem ntz5 : ∀ j, j < 5 → nt0 ((1 : Int32) <<< (nI j &&& 31)) ≤ 65536 ∧ nt0 ((1 : Int32) <<< (nI j &&& 31)) ≤ 256 ∧ ntI ((1 : Int32) <<< (nI j &&& 31)) = nI j := by decide +kernel
theorem lk_d {Q : TA} {N : Nat → List Nat} {n t E : Nat} (h : ¬ E = 0) : lk Q N n t E (none, E) := Or.inl ⟨rfl, h⟩
theorem ps_cross {Q : TA} {m : Nat} (vQ : VTa Q) (hm : m ≤ 1000) (hend : yT Q (tp Q m) = 0) : PS Q m 6 (FX8_readCrossing 15) (FX12_readLine 249) := by
  intro t T N b hV ht hk
  have h5 := hV.1.1.1
  have h4 := hV.1.1.2.1
  have h6 := hV.1.1.2.2.1
  have disp : ∀ (σ : MM) (P : Unit → MM → Prop), SM Q m t 0 σ → wp (bd (FX12_readCrosses 249) (fun (_ : Unit) => FX12_takeSign 249 (59 : Int32))) σ P → wp (bd (FX12_readLine 249) (fun (_ : Unit) => FX12_takeSign 249 (59 : Int32))) σ P := by
    intro σ P hS h
    unfold FX12_readLine
    refine bd_asw (wp_eq (m_isWord (k := 0) vQ (by decide) (by decide) hS) ?_)
    rw [wB_x (j := 0) (by decide) (by decide) hk (by decide), if_pos (show b2i (decide ((0 : Nat) = 0) && false) = 0 from rfl)]
    refine bd_asw (bd_asw (wp_eq (m_isWord (k := 2) vQ (by decide) (by decide) hS) ?_))
    rw [wB_x (j := 2) (by decide) (by decide) hk (by decide), if_pos (show b2i (decide ((0 : Nat) = 0) && false) = 0 from rfl)]
    refine bd_asw (wp_eq (m_isWord (k := 4) vQ (by decide) (by decide) hS) ?_)
    rw [wB_x (j := 4) (by decide) (by decide) hk (by decide), if_pos (show b2i (decide ((0 : Nat) = 0) && false) = 0 from rfl)]
    refine bd_asw (wp_eq (m_isWord (k := 6) vQ (by decide) (by decide) hS) ?_)
    rw [hk, if_neg (show ¬ b2i (decide ((0 : Nat) = 0) && true) = 0 by decide)]
    obtain ⟨r, τ, e, q⟩ := h
    refine ⟨r, τ, ?_, q⟩
    rw [← e]
    rw [bd_as]
    rfl
  obtain ⟨L1, hL1⟩ := lk_ex Q (N 0) (T.1 0) (t + 1) 0
  obtain ⟨l1, l2, l3⟩ := lk_E vQ (by decide) hL1
  -- the class: up to the first name
  have cHead : ∀ (σ : MM) (P : Unit → MM → Prop), SC Q t 0 σ → DC T N b σ → (∀ τ, SC Q (t + 1) L1.2 τ → FT σ τ → wp (bd (FX7_hasLine 16 (oI L1.1 (-1))) (fun x4 => if ((b2i x4)) = 0 then pu () else bd (FX5_advance 1) (fun (_ : Unit) => bd (aI 21 5 (oI L1.1 (-1))) (fun x6 => bd (FX8_lineOutside 15 (x6 ||| ((1 : Int32) <<< ((oI L1.1 (-1)) &&& 31)))) (fun x7 => bd (FX5_expectSign 1 (59 : Int32)) (fun (_ : Unit) => bd (gI 1 6) (fun x9 => bd (if x9 = 0 then bd (FJ6_numberOfTrailingZeros_0f7a4 x7) (fun x10 => bd (FX7_addCrossing 16 (oI L1.1 (-1)) x10) (fun (_ : Unit) => pu ())) else pu () : PP (Unit)) (fun (v12 : Unit) => pu ())))))))) τ P) → wp (FX8_readCrossing 15) σ P := by
    intro σ P hS hD h
    unfold FX8_readCrossing
    rw [r15_0, r15_1, r16_0, r16_4]
    refine wp_bd (c_adv vQ hS) ?_
    rintro _ τ1 ⟨s1, f1⟩
    have hD1 := DC_t f1 hD
    refine ws_gv hD1.1.1 (wp_bd (c_findName (N := N 0) (by decide) h5 (by decide) (fun i hi => hV.2.1.1 0 (by decide) i hi) (fun i hi => hD1.2.2.2.2.2.2 0 (by decide) i hi) s1 hL1 (fun i j hi hj he => (hV.2.1.2 0 0 (by decide) (by decide) i j hi hj he).2)) ?_)
    rintro x τ2 ⟨rfl, s2, f2⟩
    exact h τ2 s2 (FT_tr f1 f2)
  -- the model: up to the first name
  have mHead : ∀ (σ : MM) (P : Unit → MM → Prop), SM Q m t 0 σ → DM T N b σ → (∀ τ, SM Q m (nx (t + 1) L1.2) L1.2 τ → eqr Rat σ τ → wp (bd (FX12_toldHere 249 (1 : Int32) (0 : Int32)) (fun x3 => lt (((44 : Int32) + ((2 : Int32) * (oI L1.1 0))) + (1 : Int32)) (fun y4 => bd (gI 249 8) (fun x5 => bd (if x5 = 0 then if (oI L1.1 0) = x3 then bd (FX12_wrong 249 (3 : Int32)) (fun (_ : Unit) => pu ()) else bd (aI 255 80 y4) (fun x7 => if ((x7 >>> (x3 &&& 31)) &&& (1 : Int32)) = (1 : Int32) then bd (FX12_wrong 249 (3 : Int32)) (fun (_ : Unit) => pu ()) else pu ()) else pu () : PP (Unit)) (fun (v9 : Unit) => bd (gI 249 7) (fun x10 => bd (gI 249 8) (fun x11 => bd (if x11 ≤ 0 then pu (1 : Int32) else pu (0 : Int32) : PP (Int32)) (fun (v12 : Int32) => bd (sI 249 7 (x10 + v12)) (fun (_ : Unit) => bd (bd (gI 249 8) (fun x13 => bd (if x13 = 0 then bd (aI 255 80 y4) (fun x14 => bd (uI 255 80 y4 (x14 ||| ((1 : Int32) <<< (x3 &&& 31)))) (fun (_ : Unit) => bd (aI 255 80 (((44 : Int32) + ((2 : Int32) * x3)) + (1 : Int32))) (fun x15 => bd (uI 255 80 (((44 : Int32) + ((2 : Int32) * x3)) + (1 : Int32)) (x15 ||| ((1 : Int32) <<< ((oI L1.1 0) &&& 31)))) (fun (_ : Unit) => pu ())))) else pu () : PP (Unit)) (fun (v16 : Unit) => pu ()))) (fun (_ : Unit) => FX12_takeSign 249 (59 : Int32))))))))))) τ P) → wp (bd (FX12_readLine 249) (fun (_ : Unit) => FX12_takeSign 249 (59 : Int32))) σ P := by
    intro σ P hS hD h
    refine disp σ P hS ?_
    unfold FX12_readCrosses
    rw [r249_10]
    obtain ⟨s1, f1⟩ := SM_1 hS ht
    refine bd_asw (ws_gv hS.2.2.2.1 (bd_asw (ws_s ?_)))
    revert s1 f1
    generalize ((up2 σ.1 249 7 (nI t + (1 : Int32)), σ.2) : MM) = τ1
    intro s1 f1
    have hD1 := DM_a f1 hD
    refine bd_asw (wp_bd (m_takeTold (p := 1) (r0 := 0) vQ (by decide) (Or.inl rfl) (by decide) h5 h4 h6 hV.2.1 s1 hD1.2.2 hL1) ?_)
    rintro x τ2 ⟨rfl, s2, f2⟩
    have := h τ2 s2 (eqr_tr f1 f2)
    obtain ⟨r, τ, e, q⟩ := this
    refine ⟨r, τ, ?_, q⟩
    rw [← e]
    simp only [bd_as, lt_eq]
  cases hx : L1.1 with
  | none =>
    have n0 := l2.mp hx
    refine ⟨t + 1, L1.2, T, N, b, ⟨l1, by omega, by omega, fun z => absurd z n0⟩, fun σ hS hD => ?_, fun σ hS hD => ?_⟩
    · refine cHead σ _ hS hD (fun τ s f => ?_)
      have e : FX7_hasLine 16 (oI L1.1 (-1)) τ = some (false, τ) := by rw [hx]; rfl
      refine wp_eq e ?_
      rw [if_pos (show b2i false = 0 from rfl)]
      exact wp_pu ⟨s, fun z => absurd z n0, FDc_t f⟩
    · refine mHead σ _ hS hD (fun τ s f => ?_)
      have en : nx (t + 1) L1.2 = t + 1 := by unfold nx; rw [if_neg n0]
      rw [en] at s
      refine wp_bd (m_toldHere (p := 1) (r0 := 0) vQ l1 (Or.inl rfl) (by decide) h5 h4 h6 hV.2.1 s (DM_a f hD).2.2 (lk_d n0)) ?_
      rintro x τ2 ⟨rfl, s2, f2⟩
      rw [lt_eq]
      refine ws_gv s2.2.2.2.2 ?_
      rw [if_neg (nI_ne0 (by show 0 < L1.2; omega) (by show L1.2 < 2 ^ 31; omega))]
      refine wp_eq (show pu () τ2 = some ((), τ2) from rfl) (m_on l1 s2 (fun z => absurd z n0) (fun τ3 s3 f3 => ?_))
      refine bd_asw (ws_gv s3.2.2.2.2 ?_)
      rw [if_neg (nI_ne0 (by show 0 < L1.2; omega) (by show L1.2 < 2 ^ 31; omega))]
      refine bd_asw (wp_eq (show pu () τ3 = some ((), τ3) from rfl) (wp_eq (show pu () τ3 = some ((), τ3) from rfl) ?_))
      have en2 : nx (t + 1) L1.2 = t + 1 := en
      rw [en2] at s3
      refine wp_mono (m_takeSign vQ l1 s3 59) (fun _ τ4 q => ?_)
      rw [st1_d n0] at q
      exact ⟨q.1, fun z => absurd z n0, FDm_a (eqr_tr f (eqr_tr f2 (eqr_tr f3 q.2)))⟩
  | some i =>
    obtain ⟨hi, e0⟩ := lk_s hL1 hx
    obtain ⟨Hi, hHi, eHi⟩ := hV.2.2.2 i hi
    have hO := (bt5 Hi hHi i (by omega)).2.2.1
    have htm : t + 1 < m := t_ltm hend (by omega) (by rw [lk_y hL1 e0 (fun _ _ => trivial)]; decide)
    obtain ⟨L2, hL2⟩ := lk_ex Q (N 0) (T.1 0) (t + 2) 0
    obtain ⟨R, hR⟩ := lo_ex (H := orB Hi i) hL2
    obtain ⟨u1, u2, u3, u4, u5, u6⟩ := lo_m vQ hend (show t + 2 ≤ m by omega) (by decide) h5 hO hL2 hR
    have q3 := st1_m (k := 1) (b := gB Q 59 R.1) vQ hend (by decide) (fun h => gB_y h) u1 u3
    obtain ⟨R3, hR3⟩ : ∃ R3, R3 = st1 Q (gB Q 59 R.1) 1 R.1 R.2.1 := ⟨_, rfl⟩
    rw [← hR3] at q3
    obtain ⟨q31, q32, q33, q34⟩ := q3
    obtain ⟨j, hjx⟩ : ∃ j, ∀ k, L2.1 = some k → k = j := by
      cases h : L2.1 with
      | none => exact ⟨0, fun k q => by cases q⟩
      | some k => exact ⟨k, fun k2 q => (Option.some.inj q).symm⟩
    obtain ⟨Hj, hHj, eHj⟩ : ∃ Hj, Hj < 32 ∧ (j < T.1 0 → T.2 1 j = nI Hj) := by
      by_cases z : j < T.1 0
      · obtain ⟨H, h1, h2⟩ := hV.2.2.2 j z
        exact ⟨H, h1, fun _ => h2⟩
      · exact ⟨0, by decide, fun q => absurd q z⟩
    have live : R.2.1 = 0 → L2.1 = some j ∧ j < T.1 0 ∧ ¬ i = j ∧ ¬ Hi / 2 ^ j % 2 = 1 ∧ R = (t + 3, 0, orB (orB Hi i) j) := by
      intro z
      obtain ⟨-, -, k, k1, k2, k3, k4⟩ := u5 z
      have := hjx k k1
      subst this
      have ho := or5 Hi hHi i (by omega) k (by omega)
      refine ⟨k1, k2, fun q => k3 (ho.mpr (Or.inl q.symm)), fun q => k3 (ho.mpr (Or.inr q)), ?_⟩
      rw [k4]
    refine ⟨R3.1, R3.2, crT T i j (nI (orB Hi j)) (nI (orB Hj i)), N, b, ⟨q33, by omega, q31, fun z => ?_⟩, fun σ hS hD => ?_, fun σ hS hD => ?_⟩
    · obtain ⟨z1, -, -⟩ := q34 z
      obtain ⟨-, k2, -, -, -⟩ := live z1
      exact ⟨by omega, DV_cr hV hi k2 hHi hHj⟩
    · refine cHead σ _ hS hD (fun τ s f => ?_)
      have hD1 := DC_t f hD
      rw [e0] at s
      rw [hx, show oI (some i) (-1) = nI i from rfl]
      have hl : FX7_hasLine 16 (nI i) τ = some (true, τ) := by
        unfold FX7_hasLine
        rw [if_neg (nI_pos (by omega)), bd_as]
        refine (ev_bd (show gI 16 9 τ = some (_, τ) by unfold gI; rw [hD1.1.1])).trans ?_
        rw [if_neg (nle_n hi (by omega))]
        rfl
      refine wp_eq hl ?_
      rw [if_neg (show ¬ b2i true = 0 by decide)]
      refine wp_bd (c_adv vQ s) ?_
      rintro _ τ2 ⟨s2, f2⟩
      have hD2 := DC_t f2 hD1
      refine ws_a (i := i) (by omega) (by decide) ((hD2.2.1 i hi).2.trans eHi) ?_
      rw [(bt5 Hi hHi i (by omega)).2.1]
      refine wp_bd (c_lineOutside vQ hV (by decide) hO s2 hD2.2.2.2.2.2.2 hD2.1.1 hL2 hR) ?_
      rintro x τ3 ⟨-, hxv, s3, f3⟩
      refine wp_bd (c_expectSign (c := 59) vQ u3 (by decide) (by decide) (by decide) (by decide) s3) ?_
      rintro _ τ4 ⟨s4, f4⟩
      rw [← hR3] at s4
      refine ws_gv s4.2.1 ?_
      have f' := FT_tr f2 (FT_tr f3 f4)
      by_cases z : R3.2 = 0
      · obtain ⟨z1, -, -⟩ := q34 z
        obtain ⟨k1, k2, k3, k4, k5⟩ := live z1
        rw [if_pos (show nI R3.2 = 0 by rw [z]; rfl), hxv j k1 z1]
        rw [z] at s4
        obtain ⟨n1, n2, n3⟩ := ntz5 j (by omega)
        refine bd_asw (wp_eq (nt_ev n1 n2 τ4) ?_)
        rw [n3]
        refine bd_asw (wp_bd (c_addCrossing h5 hi k2 k3 hHi hHj eHi (eHj k2) s4 (DC_t f' hD1)) (fun _ τ5 q => ?_))
        refine wp_eq (show pu () τ5 = some ((), τ5) from rfl) (wp_pu ?_)
        rw [z]
        exact ⟨q.1, fun _ => q.2.1, FDc_tr (FDc_t (FT_tr f f')) q.2.2⟩
      · rw [if_neg (nI_ne0 (by omega) (by omega))]
        exact wp_eq (show pu () τ4 = some ((), τ4) from rfl) (wp_pu ⟨s4, fun h => absurd h z, FDc_t (FT_tr f f')⟩)
    · refine mHead σ _ hS hD (fun τ s f => ?_)
      have hD1 := DM_a f hD
      rw [e0, show nx (t + 1) 0 = t + 2 from rfl] at s
      refine wp_bd (m_toldHere (p := 1) (r0 := 0) vQ (by decide) (Or.inl rfl) (by decide) h5 h4 h6 hV.2.1 s hD1.2.2 hL2) ?_
      rintro x τ2 ⟨rfl, s2, f2⟩
      have hD2 := DM_a f2 hD1
      rw [lt_eq, hx, show oI (some i) 0 = nI i from rfl]
      rw [show ((44 : Int32) + 2 * nI i) + 1 = nI (45 + 2 * i) by
        rw [show (2 : Int32) = nI 2 from rfl, pk_mul, show (44 : Int32) = nI 44 from rfl, nI_add, nI_1]
        congr 1
        omega]
      -- what is told after: the state R.1, R.2.1
      have fin : ∀ (τ3 : MM), SM Q m (t + 2) R.2.1 τ3 → eqr Rat τ2 τ3 → wp (bd (gI 249 7) (fun x10 => bd (gI 249 8) (fun x11 => bd (if x11 ≤ 0 then pu (1 : Int32) else pu (0 : Int32) : PP (Int32)) (fun (v12 : Int32) => bd (sI 249 7 (x10 + v12)) (fun (_ : Unit) => bd (bd (gI 249 8) (fun x13 => bd (if x13 = 0 then bd (aI 255 80 (nI (45 + 2 * i))) (fun x14 => bd (uI 255 80 (nI (45 + 2 * i)) (x14 ||| ((1 : Int32) <<< ((oI L2.1 0) &&& 31)))) (fun (_ : Unit) => bd (aI 255 80 (((44 : Int32) + ((2 : Int32) * (oI L2.1 0))) + (1 : Int32))) (fun x15 => bd (uI 255 80 (((44 : Int32) + ((2 : Int32) * (oI L2.1 0))) + (1 : Int32)) (x15 ||| ((1 : Int32) <<< (nI i &&& 31)))) (fun (_ : Unit) => pu ())))) else pu () : PP (Unit)) (fun (v16 : Unit) => pu ()))) (fun (_ : Unit) => FX12_takeSign 249 (59 : Int32))))))) τ3 (fun _ τ => SM Q m R3.1 R3.2 τ ∧ (R3.2 = 0 → DM (crT T i j (nI (orB Hi j)) (nI (orB Hj i))) N b τ) ∧ FDm σ τ) := by
        intro τ3 s3 f3
        have hD3 := DM_a f3 hD2
        have en : nx (t + 2) R.2.1 = R.1 := by
          unfold nx
          by_cases z : R.2.1 = 0
          · rw [if_pos z, (live z).2.2.2.2]
          · rw [if_neg z, (u6 z).2]
        refine m_on u3 s3 (fun z => by
          have k1 := (live z).1
          rw [lk_y hL2 (lk_s hL2 k1).2 (fun _ _ => trivial)]
          decide) (fun τ4 s4 f4 => ?_)
        have hD4 := DM_a f4 hD3
        rw [en] at s4
        refine bd_asw (ws_gv s4.2.2.2.2 ?_)
        have fr := eqr_tr f (eqr_tr f2 (eqr_tr f3 f4))
        by_cases z : R.2.1 = 0
        · obtain ⟨k1, k2, k3, k4, k5⟩ := live z
          rw [if_pos (show nI R.2.1 = 0 by rw [z]; rfl), k1, show oI (some j) 0 = nI j from rfl]
          refine bd_asw (bd_asw (ws_a (i := 45 + 2 * i) (by omega) (by decide) ((hD4.1.2.1 i hi).2.trans eHi) ?_))
          rw [(bt5 Hi hHi j (by omega)).2.1, show ((44 : Int32) + 2 * nI j) + 1 = nI (45 + 2 * j) by
            rw [show (2 : Int32) = nI 2 from rfl, pk_mul, show (44 : Int32) = nI 44 from rfl, nI_add, nI_1]
            congr 1
            omega]
          refine bd_asw (ws_u (by omega) (by decide) (bd_asw (ws_a (i := 45 + 2 * j) (by omega) (by decide) (x := nI Hj) ((mm_ne (by omega)).trans ((hD4.1.2.1 j k2).2.trans (eHj k2))) ?_)))
          rw [(bt5 Hj hHj i (by omega)).2.1]
          refine bd_asw (ws_u (by omega) (by decide) ?_)
          refine wp_eq (show pu () _ = some ((), _) from rfl) (wp_eq (show pu () _ = some ((), _) from rfl) ?_)
          have hM := DM_cr (u := nI (orB Hi j)) (v := nI (orB Hj i)) h5 h4 hi k2 k3 hD4
          have hq : eqr (fun b j => b = 255 ∧ 40 ≤ j) τ4 (up2 (up2 τ4.1 255 (45 + 2 * i) (nI (orB Hi j))) 255 (45 + 2 * j) (nI (orB Hj i)), τ4.2) := eqr_tr (eqr_up (by omega)) (eqr_up (σ := (up2 τ4.1 255 (45 + 2 * i) (nI (orB Hi j)), τ4.2)) (by omega))
          have s5 : SM Q m R.1 R.2.1 (up2 (up2 τ4.1 255 (45 + 2 * i) (nI (orB Hi j))) 255 (45 + 2 * j) (nI (orB Hj i)), τ4.2) := SM_r s4 hq (fun b j z => by omega) s4.2.2.1 ((hq.1 _ _ (by omega)).trans s4.2.2.2.1) ((hq.1 _ _ (by omega)).trans s4.2.2.2.2)
          refine wp_mono (m_takeSign vQ u3 s5 59) (fun _ τ6 q => ?_)
          rw [← hR3] at q
          exact ⟨q.1, fun _ => DM_a q.2 hM, FDm_tr (FDm_a fr) (FDm_tr (FDm_r hq (fun b j z => by unfold RDm; omega)) (FDm_a q.2))⟩
        · rw [if_neg (nI_ne0 (by omega) (by omega))]
          refine bd_asw (wp_eq (show pu () τ4 = some ((), τ4) from rfl) (wp_eq (show pu () τ4 = some ((), τ4) from rfl) ?_))
          refine wp_mono (m_takeSign vQ u3 s4 59) (fun _ τ5 q => ?_)
          rw [← hR3] at q
          exact ⟨q.1, fun h => absurd (q34 h).1 z, FDm_a (eqr_tr fr q.2)⟩
      refine ws_gv s2.2.2.2.2 ?_
      rcases hR with ⟨h1, rfl⟩ | ⟨k, h1, hkl, hR⟩
      · have n0 : ¬ L2.2 = 0 := (lk_E vQ (by decide) hL2).2.1.mp h1
        have n1 : L2.2 < 20000 := (lk_E vQ (by decide) hL2).1
        rw [if_neg (nI_ne0 (by omega) (by omega))]
        exact wp_eq (show pu () τ2 = some ((), τ2) from rfl) (fin τ2 s2 eqr_rf)
      · have ek := hjx k h1
        subst ek
        have e20 : L2.2 = 0 := (lk_s hL2 h1).2
        rw [e20] at s2 ⊢
        rw [if_pos (show nI 0 = 0 from rfl), h1, show oI (some k) 0 = nI k from rfl]
        rw [h1, show oI (some k) 0 = nI k from rfl] at fin
        have ho := or5 Hi hHi i (by omega) k (by omega)
        have bad : R = (t + 2, fc Q 3 (t + 2), orB Hi i) → wp (bd (FX12_wrong 249 (3 : Int32)) (fun (_ : Unit) => pu ())) τ2 (fun _ τ3 => SM Q m (t + 2) R.2.1 τ3 ∧ eqr Rat τ2 τ3) := by
          intro e
          rw [e]
          exact wp_bd (m_wrong (k := 3) vQ (by decide) s2) (fun _ τ3 q => wp_pu q)
        by_cases z1 : i = k
        · rw [if_pos (by rw [z1])]
          rcases hR with ⟨z, hR⟩ | ⟨z, hR⟩
          · exact wp_bd (bad hR) (fun _ τ3 q => fin τ3 q.1 q.2)
          · exact absurd (ho.mpr (Or.inl z1.symm)) z
        · rw [if_neg (fun q => z1 ((nI_eq (by omega) (by omega)).mp q))]
          refine bd_asw (ws_a (i := 45 + 2 * i) (by omega) (by decide) ((hD2.1.2.1 i hi).2.trans eHi) ?_)
          rcases hR with ⟨z, hR⟩ | ⟨z, hR⟩
          · have zz : Hi / 2 ^ k % 2 = 1 := by
              rcases ho.mp z with q | q
              · exact absurd q.symm z1
              · exact q
            rw [if_pos ((bt5 Hi hHi k (by omega)).1.mpr zz)]
            exact wp_bd (bad hR) (fun _ τ3 q => fin τ3 q.1 q.2)
          · rw [if_neg (fun q => z (ho.mpr (Or.inr ((bt5 Hi hHi k (by omega)).1.mp q))))]
            refine wp_eq (show pu () τ2 = some ((), τ2) from rfl) (fin τ2 ?_ eqr_rf)
            rw [hR]
            exact s2
