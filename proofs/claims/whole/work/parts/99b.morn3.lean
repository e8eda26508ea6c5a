/-! ===== a morning read: all its lines ===== -/
theorem mo_loop {Q : TA} {T : TW} {N : NM} {m : Nat} (vQ : VTa Q) (hm : m ≤ 1000) (hend : yT Q (tp Q m) = 0) (hall : ∀ t, t < m → ¬ yT Q (tp Q t) = 0) (hT : VTn T) (hN : VNa T N) : ∀ r t P i, VPl T P → t ≤ m → m - t ≤ r → i ≤ t → ∃ (t' E' n' : Nat) (P' : TO), (E' < 20000 ∧ (E' = 0 → n' = P'.1 ∧ VPl T P')) ∧ (∀ σ F, r + 1 < F → SC Q t 0 σ → CNm T N σ → DCp P σ → wp (it moC F (nI i)) σ (fun _ τ => SC Q t' E' τ ∧ (E' = 0 → DCp P' τ) ∧ FPc σ τ)) ∧ ∀ σ F, r + 1 < F → SM Q m t 0 σ → MNb 258 260 18 T N σ → DMp P σ → wp (it moM F (nI P.1)) σ (fun x τ => x = nI n' ∧ SM Q m t' E' τ ∧ (E' = 0 → DMp P' τ) ∧ eqr RPm σ τ) := by
  have cEnd : ∀ (t E i F : Nat) (σ : MM), (E = 0 → yT Q (tp Q t) = 0) → 0 < F → SC Q t E σ → it moC F (nI i) σ = some ((), σ) := by
    intro t E i F σ hy hF hS
    cases F with
    | zero => omega
    | succ F =>
      show bd (moC (nI i)) (Sum.elim (it moC F) pu) σ = some ((), σ)
      have e : moC (nI i) σ = some (.inr (), σ) := by
        unfold moC
        by_cases z : (1000 : Int32) ≤ nI i
        · rw [if_pos z]; rfl
        · rw [if_neg z]
          refine (ev_bd (show gI 1 2 σ = some (_, σ) by unfold gI; rw [SC_k hS])).trans ?_
          rw [if_pos]
          · rfl
          · by_cases e0 : E = 0
            · rw [if_pos e0]; exact kd_0.mpr (hy e0)
            · rw [if_neg e0]
      exact (ev_bd e).trans rfl
  have mEnd : ∀ (t E n F : Nat) (σ : MM), E < 20000 → (E = 0 → yT Q (tp Q t) = 0) → 0 < F → SM Q m t E σ → wp (it moM F (nI n)) σ (fun x τ => x = nI n ∧ τ = σ) := by
    intro t E n F σ hE hy hF hS
    obtain ⟨hm1, hm2⟩ := SM_m vQ hS
    cases F with
    | zero => omega
    | succ F =>
      refine it_s ?_
      unfold moM
      refine ws_gv hS.2.2.2.2 ?_
      by_cases e0 : E = 0
      · rw [if_pos (show nI E = 0 by rw [e0]; rfl)]
        refine ws_gv hS.2.2.2.1 (ws_a (by omega) (by decide) (hS.1.2.2.2 t hS.2.2.1).1 ?_)
        rw [if_pos (show nI (yT Q (tp Q t)) = 0 by rw [hy e0]; rfl)]
        exact wp_pu (Or.inr ⟨_, rfl, rfl, rfl⟩)
      · rw [if_neg (nI_ne0 (by omega) (by omega))]
        exact wp_pu (Or.inr ⟨_, rfl, rfl, rfl⟩)
  have stop : ∀ (r t i : Nat) (P : TO), VPl T P → t = m → ∃ (t' E' n' : Nat) (P' : TO), (E' < 20000 ∧ (E' = 0 → n' = P'.1 ∧ VPl T P')) ∧ (∀ σ F, r + 1 < F → SC Q t 0 σ → CNm T N σ → DCp P σ → wp (it moC F (nI i)) σ (fun _ τ => SC Q t' E' τ ∧ (E' = 0 → DCp P' τ) ∧ FPc σ τ)) ∧ ∀ σ F, r + 1 < F → SM Q m t 0 σ → MNb 258 260 18 T N σ → DMp P σ → wp (it moM F (nI P.1)) σ (fun x τ => x = nI n' ∧ SM Q m t' E' τ ∧ (E' = 0 → DMp P' τ) ∧ eqr RPm σ τ) := by
    intro r t i P hP htm
    refine ⟨t, 0, P.1, P, ⟨by decide, fun _ => ⟨rfl, hP⟩⟩, fun σ F hF hS hC hD => ⟨(), σ, cEnd t 0 i F σ (fun _ => by rw [htm]; exact hend) (by omega) hS, hS, fun _ => hD, FPc_rf⟩, fun σ F hF hS hM hD => wp_mono (mEnd t 0 P.1 F σ (by decide) (fun _ => by rw [htm]; exact hend) (by omega) hS) (fun x τ q => by rw [q.2]; exact ⟨q.1, hS, fun _ => hD, eqr_rf⟩)⟩
  intro r
  induction r with
  | zero =>
    intro t P i hP ht hr hi
    exact stop 0 t i P hP (by omega)
  | succ r ih =>
    intro t P i hP ht hr hi
    by_cases htm : t = m
    · exact stop (r + 1) t i P hP htm
    · obtain ⟨t1, E1, n1, P1, ⟨p1, p2, p3, p4⟩, pC, pM⟩ := mo_step vQ hend hT hN hP (show t < m by omega) (hall t (by omega))
      by_cases z : E1 = 0
      · obtain ⟨k1, k2, k3⟩ := p4 z
        obtain ⟨t', E', n', P', q0, qC, qM⟩ := ih t1 P1 (i + 1) k3 p3 (by omega) (by omega)
        refine ⟨t', E', n', P', q0, fun σ F hF hS hC hD => ?_, fun σ F hF hS hM hD => ?_⟩
        · cases F with
          | zero => omega
          | succ F =>
            refine it_s (wp_mono (pC σ i (by omega) hS hC hD) ?_)
            rintro x τ ⟨rfl, s1, d1, f1⟩
            rw [z] at s1
            exact Or.inl ⟨_, rfl, wp_mono (qC τ F (by omega) s1 (CNm_p f1 hC) (d1 z)) (fun _ υ q => ⟨q.1, q.2.1, FPc_tr f1 q.2.2⟩)⟩
        · cases F with
          | zero => omega
          | succ F =>
            refine it_s (wp_mono (pM σ hS hM hD) ?_)
            rintro x τ ⟨rfl, s1, d1, f1⟩
            rw [z] at s1
            rw [k2]
            exact Or.inl ⟨_, rfl, wp_mono (qM τ F (by omega) s1 (MNm_p f1 hM) (d1 z)) (fun _ υ q => ⟨q.1, q.2.1, q.2.2.1, eqr_tr f1 q.2.2.2⟩)⟩
      · refine ⟨t1, E1, n1, P1, ⟨p1, fun q => absurd q z⟩, fun σ F hF hS hC hD => ?_, fun σ F hF hS hM hD => ?_⟩
        · cases F with
          | zero => omega
          | succ F =>
            refine it_s (wp_mono (pC σ i (by omega) hS hC hD) ?_)
            rintro x τ ⟨rfl, s1, d1, f1⟩
            exact Or.inl ⟨_, rfl, (), τ, cEnd t1 E1 (i + 1) F τ (fun q => absurd q z) (by omega) s1, s1, fun q => absurd q z, f1⟩
        · cases F with
          | zero => omega
          | succ F =>
            refine it_s (wp_mono (pM σ hS hM hD) ?_)
            rintro x τ ⟨rfl, s1, d1, f1⟩
            exact Or.inl ⟨_, rfl, wp_mono (mEnd t1 E1 n1 F τ p1 (fun q => absurd q z) (by omega) s1) (fun x υ q => by rw [q.2]; exact ⟨q.1, s1, fun q => absurd q z, f1⟩)⟩
