/-! ===== products, sums, tests ===== -/
theorem WFs_m {L : Nat → Int32} {z y B B2 : Nat} (h : B2 ≤ B) (hw : WFs L z y B) : WFs L z y B2 := fun hb => hw (by omega)
theorem PX_m {Q : TA} {m : Nat} {C M : PP Unit} {B B2 : Nat} (hB : B2 ≤ B) (h : PX Q m C M B) : PX Q m C M B2 := by
  intro t E L z h1 h2 h3
  obtain ⟨t', E', L', z', ⟨p1, p2, p3, p4, p5, p6⟩, pC, pM⟩ := h t E L z h1 h2 h3
  exact ⟨t', E', L', z', ⟨p1, p2, p3, p4, p5, fun e => by
    obtain ⟨rb, r1, r2, r3, r4, r5⟩ := p6 e
    exact ⟨by omega, r1, r2, r3, r4, WFs_m hB r5⟩⟩, pC, pM⟩
theorem px_ops {Q : TA} {m B : Nat} {C0 M0 : PP Unit} {bC : Int32 → PP (Int32 ⊕ Unit)} {bM : Unit → PP (Unit ⊕ Unit)} (vQ : VTa Q) (hm : m ≤ 1000) (hend : yT Q (tp Q m) = 0) (op : Nat → Option (Int32 × Nat)) (h0 : PX Q m C0 M0 (B + 1))
    (hok : ∀ t s o, op t = some (s, o) → ¬ yT Q (tp Q t) = 0 ∧ s < -4 ∧ ¬ s = -5 ∧ 1 ≤ o ∧ o ≤ 10 ∧ ¬ o = 1 ∧ ¬ o = 2 ∧ s = cst (nI o) (nI 0))
    (hCn : ∀ t E i σ, SC Q t E σ → (¬ E = 0 ∨ op t = none) → bC (nI i) σ = some (.inr (), σ))
    (hCx : ∀ i σ, 1000 ≤ i → i < 2000 → bC (nI i) σ = some (.inr (), σ))
    (hCy : ∀ t s o i σ, SC Q t 0 σ → op t = some (s, o) → i < 1000 → ∀ P, wp (bd (FX5_advance 1) (fun (_ : Unit) => bd C0 (fun (_ : Unit) => bd (FX0_addStep 25 s) (fun (_ : Unit) => lt (nI i + (1 : Int32)) (fun y => pu (Sum.inl y))))) : PP (Int32 ⊕ Unit)) σ P → wp (bC (nI i)) σ P)
    (hMn : ∀ t E σ, E < 20000 → SM Q m t E σ → (¬ E = 0 ∨ op t = none) → wp (bM ()) σ (fun r τ => r = .inr () ∧ SM Q m t E τ ∧ eqr Rat σ τ))
    (hMy : ∀ t s o σ, SM Q m t 0 σ → op t = some (s, o) → ∀ P, (∀ υ, SM Q m (t + 1) 0 υ → eqr Rat σ υ → wp (bd M0 (fun (_ : Unit) => bd (FX12_emit 249 (nI o) (0 : Int32)) (fun (_ : Unit) => pu (Sum.inl ()))) : PP (Unit ⊕ Unit)) υ P) → wp (bM ()) σ P) :
    PX Q m (bd C0 (fun (_ : Unit) => bd (it bC FU (0 : Int32)) (fun (_ : Unit) => pu ()))) (bd M0 (fun (_ : Unit) => bd (it bM FU ()) (fun (_ : Unit) => pu ()))) B := by
  intro t E L z h1 h2 h3
  obtain ⟨t1, E1, L1, z1, ⟨p1, p2, p3, p4, p5, p6⟩, pC, pM⟩ := h0 t E L z h1 h2 h3
  obtain ⟨t', E', L', z', ⟨q1, q2, q3, q4, q5, q6⟩, qC, qM⟩ := px_loop (bC := bC) (bM := bM) vQ hm hend op h0 hok hCn hCx hCy hMn hMy m t1 E1 L1 z1 z 0 p1 p3 (by omega) (by omega) (by omega) p4 (fun e => WFs_m (by omega) (p6 e).2.2.2.2.2)
  have hFU := FU_ge
  refine ⟨t', E', L', z', ⟨q1, by omega, q3, by omega, by omega, fun e => ?_⟩, fun σ hC => ?_, fun σ hM => ?_⟩
  · obtain ⟨r1, r2, r3⟩ := q6 e
    obtain ⟨rb, r4, r5, r6, r7, r8⟩ := p6 r1
    exact ⟨by omega, r4, by omega, by omega, fun k hk => by rw [r2 k hk, r7 k hk], r3⟩
  · refine wp_bd (pC σ hC) ?_
    rintro _ τ1 ⟨s1, f1⟩
    refine wp_bd (qC τ1 FU (by omega) s1) ?_
    rintro _ τ2 ⟨s2, f2⟩
    exact wp_pu ⟨s2, FEc_tr f1 f2⟩
  · refine wp_bd (pM σ hM) ?_
    rintro _ τ1 ⟨s1, f1⟩
    refine wp_bd (qM τ1 FU (by omega) s1) ?_
    rintro _ τ2 ⟨s2, f2⟩
    exact wp_pu ⟨s2, eqr_tr f1 f2⟩
def opP (Q : TA) (t : Nat) : Option (Int32 × Nat) := if gB Q 42 t = true then some (-12, 6) else none
def opS (Q : TA) (t : Nat) : Option (Int32 × Nat) := if gB Q 43 t = true then some (-10, 4) else if gB Q 45 t = true then some (-11, 5) else none
def opW (Q : TA) (t : Nat) : Option (Int32 × Nat) := if wB Q 17 t = true then some (-6, 9) else if wB Q 18 t = true then some (-7, 10) else none
theorem gB_x {Q : TA} {c d : Int32} {t : Nat} (h : gB Q c t = true) (hn : ¬ c = d) : gB Q d t = false := by
  unfold gB at h ⊢
  simp only [Bool.and_eq_true, decide_eq_true_eq] at h
  rw [h.2]
  simp [hn]
theorem px_product {Q : TA} {m d : Nat} {selfC : Nat → Nat → Int32 → PP Unit} {selfM : Nat → Int32 → PP Unit} (vQ : VTa Q) (hm : m ≤ 1000) (hend : yT Q (tp Q m) = 0) (h0 : PX Q m (selfC 25 1 (nI d)) (selfM 249 (nI d)) (4 * d + 4)) : PX Q m (FX0_readProduct selfC 25 1 (nI d)) (FX12_products selfM 249 (nI d)) (4 * d + 3) := by
  unfold FX0_readProduct FX12_products
  refine px_ops vQ hm hend (opP Q) h0 ?_ ?_ ?_ ?_ ?_ ?_
  · intro t s o ho
    unfold opP at ho
    by_cases z : gB Q 42 t = true
    · rw [if_pos z] at ho
      cases ho
      exact ⟨gB_y z, by decide, by decide, by decide, by decide, by decide, by decide, rfl⟩
    · rw [if_neg z] at ho
      cases ho
  · intro t E i σ hS hx
    by_cases q : (1000 : Int32) ≤ nI i
    · rw [if_pos q]; rfl
    · rw [if_neg q]
      refine (ev_bd (show gI 1 2 σ = some (_, σ) by unfold gI; rw [SC_k hS])).trans ?_
      rw [if_neg]
      · rfl
      · rw [k_eq (by decide) (by decide) (by decide) (by decide)]
        rcases hx with hx | hx
        · simp [hx]
        · unfold opP at hx
          by_cases z : gB Q 42 t = true
          · rw [if_pos z] at hx; cases hx
          · simp [z]
  · intro i σ h1 h2
    rw [if_pos (show (1000 : Int32) ≤ nI i from nI_le (a := 1000) h1 (by omega))]
    rfl
  · intro t s o i σ hS ho hi P hP
    unfold opP at ho
    by_cases z : gB Q 42 t = true
    · rw [if_pos z] at ho
      cases ho
      rw [if_neg (show ¬ (1000 : Int32) ≤ nI i from nle_n (b := 1000) hi (by decide))]
      refine ws_gv (SC_k hS) ?_
      rw [if_pos (by rw [k_eq (by decide) (by decide) (by decide) (by decide)]; simp [z])]
      exact hP
    · rw [if_neg z] at ho
      cases ho
  · intro t E σ hE hS hx
    refine wp_bd (m_hasSign vQ hE hS 42) ?_
    rintro r τ ⟨rfl, h2, hq⟩
    have hf : (decide (E = 0) && gB Q 42 t) = false := by
      rcases hx with hx | hx
      · simp [hx]
      · unfold opP at hx
        by_cases z : gB Q 42 t = true
        · rw [if_pos z] at hx; cases hx
        · simp [z]
    rw [hf] at h2 ⊢
    rw [if_pos (show b2i false = 0 from rfl)]
    exact wp_pu ⟨rfl, h2, hq⟩
  · intro t s o σ hS ho P hP
    unfold opP at ho
    by_cases z : gB Q 42 t = true
    · rw [if_pos z] at ho
      cases ho
      refine wp_bd (m_hasSign vQ (by decide) hS 42) ?_
      rintro r τ ⟨rfl, h2, hq⟩
      have hf : (decide ((0 : Nat) = 0) && gB Q 42 t) = true := by rw [z]; rfl
      rw [hf] at h2 ⊢
      rw [if_neg (show ¬ b2i true = 0 by decide)]
      exact hP τ h2 hq
    · rw [if_neg z] at ho
      cases ho
theorem px_sum {Q : TA} {m d : Nat} {selfC : Nat → Nat → Int32 → PP Unit} {selfM : Nat → Int32 → PP Unit} (vQ : VTa Q) (hm : m ≤ 1000) (hend : yT Q (tp Q m) = 0) (h0 : PX Q m (FX0_readProduct selfC 25 1 (nI d)) (FX12_products selfM 249 (nI d)) (4 * d + 3)) : PX Q m (FX0_readSum selfC 25 1 (nI d)) (FX12_sums selfM 249 (nI d)) (4 * d + 2) := by
  unfold FX0_readSum FX12_sums
  have hsp : ∀ t s o, opS Q t = some (s, o) → (gB Q 43 t = true ∧ s = -10 ∧ o = 4) ∨ (gB Q 43 t = false ∧ gB Q 45 t = true ∧ s = -11 ∧ o = 5) := by
    intro t s o ho
    unfold opS at ho
    by_cases z : gB Q 43 t = true
    · rw [if_pos z] at ho
      cases ho
      exact Or.inl ⟨z, rfl, rfl⟩
    · rw [if_neg z] at ho
      by_cases z2 : gB Q 45 t = true
      · rw [if_pos z2] at ho
        cases ho
        exact Or.inr ⟨by simpa using z, z2, rfl, rfl⟩
      · rw [if_neg z2] at ho
        cases ho
  have hno : ∀ t E, (¬ E = 0 ∨ opS Q t = none) → (decide (E = 0) && gB Q 43 t) = false ∧ (decide (E = 0) && gB Q 45 t) = false := by
    intro t E hx
    rcases hx with hx | hx
    · simp [hx]
    · unfold opS at hx
      by_cases z : gB Q 43 t = true
      · rw [if_pos z] at hx; cases hx
      · rw [if_neg z] at hx
        by_cases z2 : gB Q 45 t = true
        · rw [if_pos z2] at hx; cases hx
        · simp [z, z2]
  refine px_ops vQ hm hend (opS Q) h0 ?_ ?_ ?_ ?_ ?_ ?_
  · intro t s o ho
    rcases hsp t s o ho with ⟨z, rfl, rfl⟩ | ⟨-, z, rfl, rfl⟩
    · exact ⟨gB_y z, by decide, by decide, by decide, by decide, by decide, by decide, rfl⟩
    · exact ⟨gB_y z, by decide, by decide, by decide, by decide, by decide, by decide, rfl⟩
  · intro t E i σ hS hx
    obtain ⟨n1, n2⟩ := hno t E hx
    by_cases q : (1000 : Int32) ≤ nI i
    · rw [if_pos q]; rfl
    · rw [if_neg q]
      refine (ev_bd (show gI 1 2 σ = some (_, σ) by unfold gI; rw [SC_k hS])).trans ?_
      rw [jn_eq, if_neg (by rw [k_eq (by decide) (by decide) (by decide) (by decide), n1]; decide)]
      refine (ev_bd (show gI 1 2 σ = some (_, σ) by unfold gI; rw [SC_k hS])).trans ?_
      rw [if_neg (by rw [k_eq (by decide) (by decide) (by decide) (by decide), n2]; decide)]
      rfl
  · intro i σ h1 h2
    rw [if_pos (show (1000 : Int32) ≤ nI i from nI_le (a := 1000) h1 (by omega))]
    rfl
  · intro t s o i σ hS ho hi P hP
    rw [if_neg (show ¬ (1000 : Int32) ≤ nI i from nle_n (b := 1000) hi (by decide))]
    refine ws_gv (SC_k hS) ?_
    rw [jn_eq]
    rcases hsp t s o ho with ⟨z, rfl, rfl⟩ | ⟨z1, z, rfl, rfl⟩
    · have hk : (if (0 : Nat) = 0 then kdT Q (tp Q t) else 0) = 43 := by rw [k_eq (by decide) (by decide) (by decide) (by decide), z]; rfl
      rw [if_pos hk]
      refine ws_gv (SC_k hS) ?_
      rw [if_pos hk]
      exact wp_eq (show pu (-10 : Int32) σ = some (_, σ) from rfl) hP
    · have hk : ¬ (if (0 : Nat) = 0 then kdT Q (tp Q t) else 0) = 43 := by rw [k_eq (by decide) (by decide) (by decide) (by decide), z1]; decide
      have hk2 : (if (0 : Nat) = 0 then kdT Q (tp Q t) else 0) = 45 := by rw [k_eq (by decide) (by decide) (by decide) (by decide), z]; rfl
      rw [if_neg hk]
      refine ws_gv (SC_k hS) ?_
      rw [if_pos hk2]
      refine ws_gv (SC_k hS) ?_
      rw [if_neg hk]
      exact wp_eq (show pu (-11 : Int32) σ = some (_, σ) from rfl) hP
  · intro t E σ hE hS hx
    obtain ⟨n1, n2⟩ := hno t E hx
    refine wp_eq (m_isSign vQ hE hS 43) ?_
    rw [n1, jn_eq, if_pos (show b2i false = 0 from rfl)]
    refine wp_eq (m_isSign vQ hE hS 45) ?_
    rw [n2, if_pos (show b2i false = 0 from rfl)]
    exact wp_pu ⟨rfl, hS, eqr_rf⟩
  · intro t s o σ hS ho P hP
    have e1 := m_isSign vQ (by decide) hS 43
    have e2 := m_isSign vQ (by decide) hS 45
    refine wp_eq e1 ?_
    rw [jn_eq]
    rcases hsp t s o ho with ⟨z, rfl, rfl⟩ | ⟨z1, z, rfl, rfl⟩
    · have hf : (decide ((0 : Nat) = 0) && gB Q 43 t) = true := by rw [z]; rfl
      rw [hf, if_neg (show ¬ b2i true = 0 by decide)]
      rw [hf] at e1
      refine wp_eq e1 ?_
      rw [lt_eq]
      refine ws_gv hS.2.2.2.1 (ws_s ?_)
      obtain ⟨s1, s2⟩ := SM_1 hS (t_lt hS (gB_y z))
      have := hP _ s1 s2
      rw [if_neg (show ¬ b2i true = 0 by decide)]
      exact this
    · have hf : (decide ((0 : Nat) = 0) && gB Q 43 t) = false := by rw [z1]; rfl
      have hf2 : (decide ((0 : Nat) = 0) && gB Q 45 t) = true := by rw [z]; rfl
      rw [hf, if_pos (show b2i false = 0 from rfl)]
      rw [hf] at e1
      rw [hf2] at e2
      refine wp_eq e2 ?_
      rw [if_neg (show ¬ b2i true = 0 by decide)]
      refine wp_eq e1 ?_
      rw [lt_eq]
      refine ws_gv hS.2.2.2.1 (ws_s ?_)
      obtain ⟨s1, s2⟩ := SM_1 hS (t_lt hS (gB_y z))
      have := hP _ s1 s2
      rw [if_pos (show b2i false = 0 from rfl)]
      exact this
theorem px_whole {Q : TA} {m d : Nat} {selfC : Nat → Nat → Int32 → PP Unit} {selfM : Nat → Int32 → PP Unit} (vQ : VTa Q) (hm : m ≤ 1000) (hend : yT Q (tp Q m) = 0) (h0 : PX Q m (FX0_readTest selfC 25 1 (nI d)) (FX12_test selfM 249 (nI d)) (4 * d + 1)) : PX Q m (FX0_readWhole selfC 25 1 (nI d)) (FX12_whole selfM 249 (nI d)) (4 * d) := by
  unfold FX0_readWhole FX12_whole
  have hsp : ∀ t s o, opW Q t = some (s, o) → (wB Q 17 t = true ∧ s = -6 ∧ o = 9) ∨ (wB Q 17 t = false ∧ wB Q 18 t = true ∧ s = -7 ∧ o = 10) := by
    intro t s o ho
    unfold opW at ho
    by_cases z : wB Q 17 t = true
    · rw [if_pos z] at ho
      cases ho
      exact Or.inl ⟨z, rfl, rfl⟩
    · rw [if_neg z] at ho
      by_cases z2 : wB Q 18 t = true
      · rw [if_pos z2] at ho
        cases ho
        exact Or.inr ⟨by simpa using z, z2, rfl, rfl⟩
      · rw [if_neg z2] at ho
        cases ho
  have hno : ∀ t E, (¬ E = 0 ∨ opW Q t = none) → (decide (E = 0) && wB Q 17 t) = false ∧ (decide (E = 0) && wB Q 18 t) = false := by
    intro t E hx
    rcases hx with hx | hx
    · simp [hx]
    · unfold opW at hx
      by_cases z : wB Q 17 t = true
      · rw [if_pos z] at hx; cases hx
      · rw [if_neg z] at hx
        by_cases z2 : wB Q 18 t = true
        · rw [if_pos z2] at hx; cases hx
        · simp [z, z2]
  have w17 : ∀ t E, ((if E = 0 then wrT Q (tp Q t) else none) = some (17 : Fin 23)) = ((decide (E = 0) && wB Q 17 t) = true) := fun t E => w_eq (w := 17)
  have w18 : ∀ t E, ((if E = 0 then wrT Q (tp Q t) else none) = some (18 : Fin 23)) = ((decide (E = 0) && wB Q 18 t) = true) := fun t E => w_eq (w := 18)
  refine px_ops vQ hm hend (opW Q) h0 ?_ ?_ ?_ ?_ ?_ ?_
  · intro t s o ho
    rcases hsp t s o ho with ⟨z, rfl, rfl⟩ | ⟨-, z, rfl, rfl⟩
    · exact ⟨wB_y z, by decide, by decide, by decide, by decide, by decide, by decide, rfl⟩
    · exact ⟨wB_y z, by decide, by decide, by decide, by decide, by decide, by decide, rfl⟩
  · intro t E i σ hS hx
    obtain ⟨n1, n2⟩ := hno t E hx
    have gw : gW σ = some ((if E = 0 then wrT Q (tp Q t) else none), σ) := by unfold gW; rw [SC_w hS]
    by_cases q : (1000 : Int32) ≤ nI i
    · rw [if_pos q]; rfl
    · rw [if_neg q]
      refine (ev_bd gw).trans ?_
      rw [jn_eq, if_neg (by rw [w17, n1]; decide)]
      refine (ev_bd gw).trans ?_
      rw [if_neg (by rw [w18, n2]; decide)]
      rfl
  · intro i σ h1 h2
    rw [if_pos (show (1000 : Int32) ≤ nI i from nI_le (a := 1000) h1 (by omega))]
    rfl
  · intro t s o i σ hS ho hi P hP
    rw [if_neg (show ¬ (1000 : Int32) ≤ nI i from nle_n (b := 1000) hi (by decide))]
    refine ws_gW (SC_w hS) ?_
    rw [jn_eq]
    rcases hsp t s o ho with ⟨z, rfl, rfl⟩ | ⟨z1, z, rfl, rfl⟩
    · have hk : (if (0 : Nat) = 0 then wrT Q (tp Q t) else none) = some (17 : Fin 23) := by rw [w17, z]; rfl
      rw [if_pos hk]
      refine ws_gW (SC_w hS) ?_
      rw [if_pos hk]
      exact wp_eq (show pu (-6 : Int32) σ = some (_, σ) from rfl) hP
    · have hk : ¬ (if (0 : Nat) = 0 then wrT Q (tp Q t) else none) = some (17 : Fin 23) := by rw [w17, z1]; decide
      have hk2 : (if (0 : Nat) = 0 then wrT Q (tp Q t) else none) = some (18 : Fin 23) := by rw [w18, z]; rfl
      rw [if_neg hk]
      refine ws_gW (SC_w hS) ?_
      rw [if_pos hk2]
      refine ws_gW (SC_w hS) ?_
      rw [if_neg hk]
      exact wp_eq (show pu (-7 : Int32) σ = some (_, σ) from rfl) hP
  · intro t E σ hE hS hx
    obtain ⟨n1, n2⟩ := hno t E hx
    refine wp_eq (m_isWord (k := 17) vQ hE (by decide) hS) ?_
    rw [n1, jn_eq, if_pos (show b2i false = 0 from rfl)]
    refine wp_eq (m_isWord (k := 18) vQ hE (by decide) hS) ?_
    rw [n2, if_pos (show b2i false = 0 from rfl)]
    exact wp_pu ⟨rfl, hS, eqr_rf⟩
  · intro t s o σ hS ho P hP
    have e1 := m_isWord (k := 17) vQ (by decide) (by decide) hS
    have e2 := m_isWord (k := 18) vQ (by decide) (by decide) hS
    refine wp_eq e1 ?_
    rw [jn_eq]
    rcases hsp t s o ho with ⟨z, rfl, rfl⟩ | ⟨z1, z, rfl, rfl⟩
    · have hf : (decide ((0 : Nat) = 0) && wB Q 17 t) = true := by rw [z]; rfl
      rw [hf, if_neg (show ¬ b2i true = 0 by decide)]
      rw [hf] at e1
      refine wp_eq e1 ?_
      rw [lt_eq]
      refine ws_gv hS.2.2.2.1 (ws_s ?_)
      obtain ⟨s1, s2⟩ := SM_1 hS (t_lt hS (wB_y z))
      have := hP _ s1 s2
      rw [if_neg (show ¬ b2i true = 0 by decide)]
      exact this
    · have hf : (decide ((0 : Nat) = 0) && wB Q 17 t) = false := by rw [z1]; rfl
      have hf2 : (decide ((0 : Nat) = 0) && wB Q 18 t) = true := by rw [z]; rfl
      rw [hf, if_pos (show b2i false = 0 from rfl)]
      rw [hf] at e1
      rw [hf2] at e2
      refine wp_eq e2 ?_
      rw [if_neg (show ¬ b2i true = 0 by decide)]
      refine wp_eq e1 ?_
      rw [lt_eq]
      refine ws_gv hS.2.2.2.1 (ws_s ?_)
      obtain ⟨s1, s2⟩ := SM_1 hS (t_lt hS (wB_y z))
      have := hP _ s1 s2
      rw [if_pos (show b2i false = 0 from rfl)]
      exact this
