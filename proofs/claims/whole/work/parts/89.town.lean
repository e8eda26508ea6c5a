/-! ===== a street read ===== -/
theorem ps_else {Q : TA} {m : Nat} (vQ : VTa Q) {t : Nat} (ht : t < m) (n0 : wB Q 0 t = false) (n2 : wB Q 2 t = false) (n4 : wB Q 4 t = false) (n6 : wB Q 6 t = false) (n7 : wB Q 7 t = false) : ∀ σ, SM Q m t 0 σ → wp (bd (FX12_readLine 249) (fun (_ : Unit) => FX12_takeSign 249 (59 : Int32))) σ (fun _ τ => SM Q m t (fc Q 1 t) τ ∧ FDm σ τ) := by
  intro σ hS
  have f1 : (b2i (decide ((0 : Nat) = 0) && false)) = 0 := rfl
  unfold FX12_readLine
  refine bd_asw (wp_eq (m_isWord (k := 0) vQ (by decide) (by decide) hS) ?_)
  rw [n0, if_pos f1]
  refine bd_asw (bd_asw (wp_eq (m_isWord (k := 2) vQ (by decide) (by decide) hS) ?_))
  rw [n2, if_pos f1]
  refine bd_asw (wp_eq (m_isWord (k := 4) vQ (by decide) (by decide) hS) ?_)
  rw [n4, if_pos f1]
  refine bd_asw (wp_eq (m_isWord (k := 6) vQ (by decide) (by decide) hS) ?_)
  rw [n6, if_pos f1]
  unfold FX12_readDries
  refine bd_asw (bd_asw (wp_eq (m_isWord (k := 7) vQ (by decide) (by decide) hS) ?_))
  rw [n7, if_pos f1]
  refine bd_asw (bd_asw (wp_bd (m_wrong (k := 1) vQ (by decide) hS) (fun _ τ q => ?_)))
  have hf : fE Q 1 t 0 = fc Q 1 t := rfl
  have n1 := fc_ne (Q := Q) (k := 1) (t := t) (by decide)
  have l1 := fc_lt (t := t) vQ (show 1 < 10 by decide)
  refine wp_eq (show pu () τ = some ((), τ) from rfl) (bd_asw (ws_gv q.1.2.2.2.2 ?_))
  rw [hf, if_neg (nI_nle (by omega) (by omega))]
  refine wp_eq (show pu () τ = some ((), τ) from rfl) (wp_eq (show pu () τ = some ((), τ) from rfl) (wp_eq (show pu () τ = some ((), τ) from rfl) ?_))
  refine wp_mono (m_takeSign vQ l1 q.1 59) (fun _ τ2 q2 => ?_)
  rw [st1_d n1] at q2
  exact ⟨q2.1, FDm_a (eqr_tr q.2 q2.2)⟩
noncomputable def twC (s3 : Int32) : PP (Int32 ⊕ Unit) := if (1000 : Int32) ≤ s3 then pu (Sum.inr ()) else bd (gI 1 2) (fun x4 => if x4 = 0 then pu (Sum.inr ()) else bd (gW) (fun x5 => bd (if x5 = ((some (0 : Fin 23))) then bd (FX8_readLine 15) (fun (_ : Unit) => pu ()) else if x5 = ((some (2 : Fin 23))) then bd (FX8_readPlace 15) (fun (_ : Unit) => pu ()) else if x5 = ((some (4 : Fin 23))) then bd (FX8_readCloth 15) (fun (_ : Unit) => pu ()) else if x5 = ((some (6 : Fin 23))) then bd (FX8_readCrossing 15) (fun (_ : Unit) => pu ()) else if x5 = ((some (7 : Fin 23))) then bd (FX8_readLaw 15) (fun (_ : Unit) => pu ()) else bd (FX5_fail 1 (1 : Int32)) (fun (_ : Unit) => pu ()) : PP (Unit)) (fun (v12 : Unit) => lt (s3 + (1 : Int32)) (fun y13 => pu (Sum.inl y13)))))
noncomputable def twM (s3 : Unit) : PP (Unit ⊕ Unit) := bd (gI 249 8) (fun x4 => if x4 = 0 then bd (gI 249 7) (fun x5 => bd (aI 251 1002 x5) (fun x6 => if x6 = 0 then pu (Sum.inr ()) else bd (FX12_readLine 249) (fun (_ : Unit) => bd (FX12_takeSign 249 (59 : Int32)) (fun (_ : Unit) => pu (Sum.inl ()))))) else pu (Sum.inr ()))
/-- one statement more -/
theorem tw_step {Q : TA} {m : Nat} (vQ : VTa Q) (hm : m ≤ 1000) (hend : yT Q (tp Q m) = 0) : ∀ t T N b, DV T N b → t < m → ∃ (t' E' : Nat) (T' : TW) (N' : NM) (b' : Bool), (E' < 20000 ∧ t ≤ t' ∧ t' ≤ m ∧ (E' = 0 → t < t' ∧ DV T' N' b')) ∧ (∀ σ (i : Nat) (P : (Int32 ⊕ Unit) → MM → Prop), i < 1000 → ¬ yT Q (tp Q t) = 0 → SC Q t 0 σ → DC T N b σ → (∀ τ, SC Q t' E' τ → (E' = 0 → DC T' N' b' τ) → FDc σ τ → P (.inl (nI (i + 1))) τ) → wp (twC (nI i)) σ P) ∧ ∀ σ, SM Q m t 0 σ → DM T N b σ → wp (bd (FX12_readLine 249) (fun (_ : Unit) => FX12_takeSign 249 (59 : Int32))) σ (fun _ τ => SM Q m t' E' τ ∧ (E' = 0 → DM T' N' b' τ) ∧ FDm σ τ) := by
  intro t T N b hV ht
  have hwr : ∀ (σ : MM), SC Q t 0 σ → σ.2.2 = wrT Q (tp Q t) := fun σ hS => by have := SC_w hS; rw [if_pos rfl] at this; exact this
  have hkd : ∀ (σ : MM), SC Q t 0 σ → σ.1 1 2 = kdT Q (tp Q t) := fun σ hS => by have := SC_k hS; rw [if_pos rfl] at this; exact this
  have cW : ∀ (C : PP Unit) (σ : MM) (i : Nat) (P : (Int32 ⊕ Unit) → MM → Prop) (A : MM → Prop), wp C σ (fun _ τ => A τ) → (∀ τ, A τ → P (.inl (nI (i + 1))) τ) → wp (bd (bd C (fun (_ : Unit) => pu ())) (fun (v12 : Unit) => lt (nI i + (1 : Int32)) (fun y13 => (pu (Sum.inl y13) : PP (Int32 ⊕ Unit))))) σ P := by
    intro C σ i P A h1 h2
    refine bd_asw (wp_bd h1 (fun _ τ q => ?_))
    refine wp_eq (show pu () τ = some ((), τ) from rfl) ?_
    rw [lt_eq, nI_1]
    exact wp_pu (h2 τ q)
  have nw : ∀ (k j : Nat) (hk : k < 23) (hj : j < 23), wB Q k t = true → ¬ k = j → ¬ wrT Q (tp Q t) = some (⟨j, hj⟩ : Fin 23) := by
    intro k j hk hj h n q
    have h2 := wr_iff.mp q
    have h3 := wB_x hk hj h n
    rw [h3] at h2
    cases h2
  have yw : ∀ (k : Nat) (hk : k < 23), wB Q k t = true → wrT Q (tp Q t) = some (⟨k, hk⟩ : Fin 23) := fun k hk h => wr_iff.mpr h
  have fwd : ∀ (k : Nat) (C : PP Unit), PS Q m k C (FX12_readLine 249) → wB Q k t = true → (∀ (σ : MM) (i : Nat) (P : (Int32 ⊕ Unit) → MM → Prop), i < 1000 → ¬ yT Q (tp Q t) = 0 → SC Q t 0 σ → wp (bd (bd C (fun (_ : Unit) => pu ())) (fun (v12 : Unit) => lt (nI i + (1 : Int32)) (fun y13 => (pu (Sum.inl y13) : PP (Int32 ⊕ Unit))))) σ P → wp (twC (nI i)) σ P) → ∃ (t' E' : Nat) (T' : TW) (N' : NM) (b' : Bool), (E' < 20000 ∧ t ≤ t' ∧ t' ≤ m ∧ (E' = 0 → t < t' ∧ DV T' N' b')) ∧ (∀ σ (i : Nat) (P : (Int32 ⊕ Unit) → MM → Prop), i < 1000 → ¬ yT Q (tp Q t) = 0 → SC Q t 0 σ → DC T N b σ → (∀ τ, SC Q t' E' τ → (E' = 0 → DC T' N' b' τ) → FDc σ τ → P (.inl (nI (i + 1))) τ) → wp (twC (nI i)) σ P) ∧ ∀ σ, SM Q m t 0 σ → DM T N b σ → wp (bd (FX12_readLine 249) (fun (_ : Unit) => FX12_takeSign 249 (59 : Int32))) σ (fun _ τ => SM Q m t' E' τ ∧ (E' = 0 → DM T' N' b' τ) ∧ FDm σ τ) := by
    intro k C hPS hk hC
    obtain ⟨t', E', T', N', b', p, pC, pM⟩ := hPS t T N b hV ht hk
    refine ⟨t', E', T', N', b', p, fun σ i P hi hy hS hD h => hC σ i P hi hy hS (cW C σ i P _ (pC σ hS hD) (fun τ q => h τ q.1 q.2.1 q.2.2)), pM⟩
  have open1 : ∀ (σ : MM) (i : Nat) (P : (Int32 ⊕ Unit) → MM → Prop), i < 1000 → ¬ yT Q (tp Q t) = 0 → SC Q t 0 σ → wp (bd (if wrT Q (tp Q t) = ((some (0 : Fin 23))) then bd (FX8_readLine 15) (fun (_ : Unit) => pu ()) else if wrT Q (tp Q t) = ((some (2 : Fin 23))) then bd (FX8_readPlace 15) (fun (_ : Unit) => pu ()) else if wrT Q (tp Q t) = ((some (4 : Fin 23))) then bd (FX8_readCloth 15) (fun (_ : Unit) => pu ()) else if wrT Q (tp Q t) = ((some (6 : Fin 23))) then bd (FX8_readCrossing 15) (fun (_ : Unit) => pu ()) else if wrT Q (tp Q t) = ((some (7 : Fin 23))) then bd (FX8_readLaw 15) (fun (_ : Unit) => pu ()) else bd (FX5_fail 1 (1 : Int32)) (fun (_ : Unit) => pu ()) : PP (Unit)) (fun (v12 : Unit) => lt (nI i + (1 : Int32)) (fun y13 => (pu (Sum.inl y13) : PP (Int32 ⊕ Unit))))) σ P → wp (twC (nI i)) σ P := by
    intro σ i P hi hy hS h
    unfold twC
    rw [if_neg (show ¬ (1000 : Int32) ≤ nI i from nle_n (b := 1000) hi (by decide))]
    refine ws_gv (hkd σ hS) ?_
    rw [if_neg (fun q => hy (kd_0.mp q))]
    exact ws_gW (hwr σ hS) h
  by_cases w0 : wB Q 0 t = true
  · refine fwd 0 _ (ps_line vQ hm hend) w0 (fun σ i P hi hy hS h => open1 σ i P hi hy hS ?_)
    rw [if_pos (show wrT Q (tp Q t) = some (0 : Fin 23) from yw 0 (by decide) w0)]
    exact h
  by_cases w2 : wB Q 2 t = true
  · refine fwd 2 _ (ps_place vQ hm hend) w2 (fun σ i P hi hy hS h => open1 σ i P hi hy hS ?_)
    rw [if_neg (show ¬ wrT Q (tp Q t) = some (0 : Fin 23) from nw 2 0 (by decide) (by decide) w2 (by decide)), if_pos (show wrT Q (tp Q t) = some (2 : Fin 23) from yw 2 (by decide) w2)]
    exact h
  by_cases w4 : wB Q 4 t = true
  · refine fwd 4 _ (ps_cloth vQ hm hend) w4 (fun σ i P hi hy hS h => open1 σ i P hi hy hS ?_)
    rw [if_neg (show ¬ wrT Q (tp Q t) = some (0 : Fin 23) from nw 4 0 (by decide) (by decide) w4 (by decide)), if_neg (show ¬ wrT Q (tp Q t) = some (2 : Fin 23) from nw 4 2 (by decide) (by decide) w4 (by decide)), if_pos (show wrT Q (tp Q t) = some (4 : Fin 23) from yw 4 (by decide) w4)]
    exact h
  by_cases w6 : wB Q 6 t = true
  · refine fwd 6 _ (ps_cross vQ hm hend) w6 (fun σ i P hi hy hS h => open1 σ i P hi hy hS ?_)
    rw [if_neg (show ¬ wrT Q (tp Q t) = some (0 : Fin 23) from nw 6 0 (by decide) (by decide) w6 (by decide)), if_neg (show ¬ wrT Q (tp Q t) = some (2 : Fin 23) from nw 6 2 (by decide) (by decide) w6 (by decide)), if_neg (show ¬ wrT Q (tp Q t) = some (4 : Fin 23) from nw 6 4 (by decide) (by decide) w6 (by decide)), if_pos (show wrT Q (tp Q t) = some (6 : Fin 23) from yw 6 (by decide) w6)]
    exact h
  by_cases w7 : wB Q 7 t = true
  · refine fwd 7 _ (ps_law vQ hm hend) w7 (fun σ i P hi hy hS h => open1 σ i P hi hy hS ?_)
    rw [if_neg (show ¬ wrT Q (tp Q t) = some (0 : Fin 23) from nw 7 0 (by decide) (by decide) w7 (by decide)), if_neg (show ¬ wrT Q (tp Q t) = some (2 : Fin 23) from nw 7 2 (by decide) (by decide) w7 (by decide)), if_neg (show ¬ wrT Q (tp Q t) = some (4 : Fin 23) from nw 7 4 (by decide) (by decide) w7 (by decide)), if_neg (show ¬ wrT Q (tp Q t) = some (6 : Fin 23) from nw 7 6 (by decide) (by decide) w7 (by decide)), if_pos (show wrT Q (tp Q t) = some (7 : Fin 23) from yw 7 (by decide) w7)]
    exact h
  have n1 := fc_ne (Q := Q) (k := 1) (t := t) (by decide)
  have l1 := fc_lt (t := t) vQ (show 1 < 10 by decide)
  refine ⟨t, fc Q 1 t, T, N, b, ⟨l1, Nat.le_refl t, Nat.le_of_lt ht, fun q => absurd q n1⟩, fun σ i P hi hy hS hD h => open1 σ i P hi hy hS ?_, fun σ hS hD => ?_⟩
  · have nn' : ∀ (k : Nat) (hk : k < 23), ¬ wB Q k t = true → ¬ wrT Q (tp Q t) = some (⟨k, hk⟩ : Fin 23) := fun k hk n q => n (wr_iff.mp q)
    rw [if_neg (show ¬ wrT Q (tp Q t) = some (0 : Fin 23) from nn' 0 (by decide) w0), if_neg (show ¬ wrT Q (tp Q t) = some (2 : Fin 23) from nn' 2 (by decide) w2), if_neg (show ¬ wrT Q (tp Q t) = some (4 : Fin 23) from nn' 4 (by decide) w4), if_neg (show ¬ wrT Q (tp Q t) = some (6 : Fin 23) from nn' 6 (by decide) w6), if_neg (show ¬ wrT Q (tp Q t) = some (7 : Fin 23) from nn' 7 (by decide) w7)]
    exact cW _ σ i P _ (c_fail (k := 1) (by decide) (by decide) hS) (fun τ q => h τ q.1 (fun z => absurd z n1) (FDc_t q.2))
  · exact wp_mono (ps_else vQ ht (by simpa using w0) (by simpa using w2) (by simpa using w4) (by simpa using w6) (by simpa using w7) σ hS) (fun _ τ q => ⟨q.1, fun z => absurd z n1, q.2⟩)
theorem tw_loop {Q : TA} {m : Nat} (vQ : VTa Q) (hm : m ≤ 1000) (hend : yT Q (tp Q m) = 0) (hall : ∀ t, t < m → ¬ yT Q (tp Q t) = 0) : ∀ r t T N b i, DV T N b → t ≤ m → m - t ≤ r → i ≤ t → ∃ (t' E' : Nat) (T' : TW) (N' : NM) (b' : Bool), (E' < 20000 ∧ (E' = 0 → DV T' N' b')) ∧ (∀ σ F, r + 1 < F → SC Q t 0 σ → DC T N b σ → wp (it twC F (nI i)) σ (fun _ τ => SC Q t' E' τ ∧ (E' = 0 → DC T' N' b' τ) ∧ FDc σ τ)) ∧ ∀ σ F, r + 1 < F → SM Q m t 0 σ → DM T N b σ → wp (it twM F ()) σ (fun _ τ => SM Q m t' E' τ ∧ (E' = 0 → DM T' N' b' τ) ∧ FDm σ τ) := by
  have cEnd : ∀ (t E i F : Nat) (σ : MM), (E = 0 → yT Q (tp Q t) = 0) → 0 < F → SC Q t E σ → it twC F (nI i) σ = some ((), σ) := by
    intro t E i F σ hy hF hS
    cases F with
    | zero => omega
    | succ F =>
      show bd (twC (nI i)) (Sum.elim (it twC F) pu) σ = some ((), σ)
      have e : twC (nI i) σ = some (.inr (), σ) := by
        unfold twC
        by_cases z : (1000 : Int32) ≤ nI i
        · rw [if_pos z]; rfl
        · rw [if_neg z]
          refine (ev_bd (show gI 1 2 σ = some (_, σ) by unfold gI; rw [SC_k hS])).trans ?_
          rw [if_pos]
          · rfl
          · by_cases e0 : E = 0
            · rw [if_pos e0]; exact kd_0.mpr (hy e0)
            · rw [if_neg e0]
      exact (ev_bd e).trans rfl
  have mEnd : ∀ (t E F : Nat) (σ : MM), E < 20000 → (E = 0 → yT Q (tp Q t) = 0) → 0 < F → SM Q m t E σ → wp (it twM F ()) σ (fun _ τ => τ = σ) := by
    intro t E F σ hE hy hF hS
    obtain ⟨hm1, hm2⟩ := SM_m vQ hS
    cases F with
    | zero => omega
    | succ F =>
      refine it_s ?_
      unfold twM
      refine ws_gv hS.2.2.2.2 ?_
      by_cases e0 : E = 0
      · rw [if_pos (show nI E = 0 by rw [e0]; rfl)]
        refine ws_gv hS.2.2.2.1 (ws_a (by omega) (by decide) (hS.1.2.2.2 t hS.2.2.1).1 ?_)
        rw [if_pos (show nI (yT Q (tp Q t)) = 0 by rw [hy e0]; rfl)]
        exact wp_pu (Or.inr ⟨(), rfl, rfl⟩)
      · rw [if_neg (nI_ne0 (by omega) (by omega))]
        exact wp_pu (Or.inr ⟨(), rfl, rfl⟩)
  intro r
  induction r with
  | zero =>
    intro t T N b i hV ht hr hi
    have htm : t = m := by omega
    refine ⟨t, 0, T, N, b, ⟨by decide, fun _ => hV⟩, fun σ F hF hS hD => ⟨(), σ, cEnd t 0 i F σ (fun _ => by rw [htm]; exact hend) (by omega) hS, hS, fun _ => hD, FDc_rf⟩, fun σ F hF hS hD => wp_mono (mEnd t 0 F σ (by decide) (fun _ => by rw [htm]; exact hend) (by omega) hS) (fun _ τ q => by rw [q]; exact ⟨hS, fun _ => hD, FDm_rf⟩)⟩
  | succ r ih =>
    intro t T N b i hV ht hr hi
    by_cases htm : t = m
    · refine ⟨t, 0, T, N, b, ⟨by decide, fun _ => hV⟩, fun σ F hF hS hD => ⟨(), σ, cEnd t 0 i F σ (fun _ => by rw [htm]; exact hend) (by omega) hS, hS, fun _ => hD, FDc_rf⟩, fun σ F hF hS hD => wp_mono (mEnd t 0 F σ (by decide) (fun _ => by rw [htm]; exact hend) (by omega) hS) (fun _ τ q => by rw [q]; exact ⟨hS, fun _ => hD, FDm_rf⟩)⟩
    · have hy := hall t (by omega)
      obtain ⟨t1, E1, T1, N1, b1, ⟨p1, p2, p3, p4⟩, pC, pM⟩ := tw_step vQ hm hend t T N b hV (by omega)
      have mStep : ∀ (σ : MM) (F : Nat) (P : Unit → MM → Prop), SM Q m t 0 σ → DM T N b σ → (∀ τ, SM Q m t1 E1 τ → (E1 = 0 → DM T1 N1 b1 τ) → FDm σ τ → wp (it twM F ()) τ P) → wp (it twM (F + 1) ()) σ P := by
        intro σ F P hS hD h
        obtain ⟨hm1, hm2⟩ := SM_m vQ hS
        have y4 := yT_4 (Q := Q) (i := tp Q t)
        refine it_s ?_
        unfold twM
        refine ws_gv hS.2.2.2.2 ?_
        rw [if_pos (show nI 0 = 0 from rfl)]
        refine ws_gv hS.2.2.2.1 (ws_a (by omega) (by decide) (hS.1.2.2.2 t hS.2.2.1).1 ?_)
        rw [if_neg (nI_ne0 (by omega) (by omega))]
        obtain ⟨x, τ, e, q⟩ := pM σ hS hD
        refine ⟨.inl (), τ, ?_, Or.inl ⟨(), rfl, h τ q.1 q.2.1 q.2.2⟩⟩
        rw [← bd_as]
        exact (ev_bd e).trans rfl
      by_cases z : E1 = 0
      · obtain ⟨k1, k2⟩ := p4 z
        obtain ⟨t', E', T', N', b', ⟨q1, q2⟩, qC, qM⟩ := ih t1 T1 N1 b1 (i + 1) k2 p3 (by omega) (by omega)
        refine ⟨t', E', T', N', b', ⟨q1, q2⟩, fun σ F hF hS hD => ?_, fun σ F hF hS hD => ?_⟩
        · cases F with
          | zero => omega
          | succ F =>
            refine it_s (pC σ i _ (by omega) hy hS hD (fun τ s1 d1 f1 => Or.inl ⟨_, rfl, ?_⟩))
            rw [z] at s1
            exact wp_mono (qC τ F (by omega) s1 (d1 z)) (fun _ υ q => ⟨q.1, q.2.1, FDc_tr f1 q.2.2⟩)
        · cases F with
          | zero => omega
          | succ F =>
            refine mStep σ F _ hS hD (fun τ s1 d1 f1 => ?_)
            rw [z] at s1
            exact wp_mono (qM τ F (by omega) s1 (d1 z)) (fun _ υ q => ⟨q.1, q.2.1, FDm_tr f1 q.2.2⟩)
      · refine ⟨t1, E1, T1, N1, b1, ⟨p1, fun q => absurd q z⟩, fun σ F hF hS hD => ?_, fun σ F hF hS hD => ?_⟩
        · cases F with
          | zero => omega
          | succ F =>
            refine it_s (pC σ i _ (by omega) hy hS hD (fun τ s1 d1 f1 => Or.inl ⟨_, rfl, ?_⟩))
            exact ⟨(), τ, cEnd t1 E1 (i + 1) F τ (fun q => absurd q z) (by omega) s1, s1, fun q => absurd q z, f1⟩
        · cases F with
          | zero => omega
          | succ F =>
            refine mStep σ F _ hS hD (fun τ s1 d1 f1 => ?_)
            exact wp_mono (mEnd t1 E1 F τ p1 (fun q => absurd q z) (by omega) s1) (fun _ υ q => by rw [q]; exact ⟨s1, fun q => absurd q z, f1⟩)
