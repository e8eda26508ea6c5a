/-! ===== the law of drying, read ===== -/
def up1 (L : Nat → Int32) (z : Nat) (s : Int32) : Nat → Int32 := fun k => if k = z then s else L k
theorem up1_at {L : Nat → Int32} {z : Nat} {s : Int32} : up1 L z s z = s := by simp [up1]
theorem up1_ne {L : Nat → Int32} {z k : Nat} {s : Int32} (h : k ≠ z) : up1 L z s k = L k := by simp [up1, h]
/-- an expression's steps, from z to y: they leave one more -/
def WFs (L : Nat → Int32) (z y B : Nat) : Prop := hg L z ≤ B → (∀ k, z ≤ k → k < y → okS L k) ∧ hg L y = hg L z + 1
theorem okS_c {L M : Nat → Int32} {k : Nat} (h : ∀ j, j ≤ k → M j = L j) (ho : okS L k) : okS M k := by
  unfold okS at ho ⊢
  rw [h k (Nat.le_refl k), hg_cong (st := M) (st2 := L) (m := k) (fun j hj => h j (by omega)) k (Nat.le_refl k)]
  exact ho
theorem WFs_c {L M : Nat → Int32} {z y B : Nat} (hzy : z ≤ y) (h : ∀ j, j < y → M j = L j) (hw : WFs L z y B) : WFs M z y B := by
  intro hb
  have e1 := hg_cong (st := M) (st2 := L) (m := y) h z hzy
  have e2 := hg_cong (st := M) (st2 := L) (m := y) h y (Nat.le_refl y)
  rw [e1] at hb
  obtain ⟨k1, k2⟩ := hw hb
  exact ⟨fun k h1 h2 => okS_c (fun j hj => h j (by omega)) (k1 k h1 h2), by rw [e1, e2]; exact k2⟩
theorem WFs_leaf {L : Nat → Int32} {z B : Nat} {s : Int32} (hs : ¬ s < -4) (hB : B < 24) : WFs (up1 L z s) z (z + 1) B := by
  intro hb
  have es : hg (up1 L z s) (z + 1) = hg (up1 L z s) z + 1 := by
    show (if up1 L z s z < -4 then _ else _) = _
    rw [up1_at, if_neg hs]
  refine ⟨fun k h1 h2 => ?_, es⟩
  have : k = z := by omega
  subst this
  unfold okS
  rw [up1_at, if_neg hs]
  omega
theorem WFs_not {L : Nat → Int32} {z y B : Nat} (hzy : z ≤ y) (hB : B < 24) (hw : WFs L z y B) : WFs (up1 L y (-5)) z (y + 1) B := by
  have hw2 := WFs_c (M := up1 L y (-5)) hzy (fun j hj => up1_ne (by omega)) hw
  intro hb
  obtain ⟨k1, k2⟩ := hw2 hb
  have es : hg (up1 L y (-5)) (y + 1) = hg (up1 L y (-5)) y := by
    show (if up1 L y (-5) y < -4 then (if up1 L y (-5) y = -5 then _ else _) else _) = _
    rw [up1_at, if_pos (by decide), if_pos rfl]
  refine ⟨fun k h1 h2 => ?_, by rw [es]; exact k2⟩
  by_cases q : k = y
  · subst q
    unfold okS
    rw [up1_at, if_pos (by decide), if_pos rfl]
    omega
  · exact k1 k h1 (by omega)
theorem WFs_bin {L : Nat → Int32} {z y x B : Nat} {s : Int32} (h1 : z ≤ y) (h2 : y ≤ x) (hs : s < -4) (hs5 : ¬ s = -5) (hB : B + 2 ≤ 24) (hw1 : WFs L z y B) (hw2 : WFs L y x (B + 1)) : WFs (up1 L x s) z (x + 1) B := by
  have a1 := WFs_c (M := up1 L x s) h1 (fun j hj => up1_ne (by omega)) hw1
  have a2 := WFs_c (M := up1 L x s) h2 (fun j hj => up1_ne (by omega)) hw2
  intro hb
  obtain ⟨k1, k2⟩ := a1 hb
  obtain ⟨k3, k4⟩ := a2 (by omega)
  have es : hg (up1 L x s) (x + 1) = hg (up1 L x s) x - 1 := by
    show (if up1 L x s x < -4 then (if up1 L x s x = -5 then _ else _) else _) = _
    rw [up1_at, if_pos hs, if_neg hs5]
  refine ⟨fun k q1 q2 => ?_, by rw [es]; omega⟩
  by_cases q : k = x
  · subst q
    unfold okS
    rw [up1_at, if_pos hs, if_neg hs5]
    omega
  · by_cases q3 : k < y
    · exact k1 k q1 q3
    · exact k3 k (by omega) (by omega)
def LCs (L : Nat → Int32) (z : Nat) (σ : MM) : Prop := σ.1 25 2 = nI z ∧ ∀ k, k < z → σ.1 26 k = L k
def CMs (L : Nat → Int32) (z : Nat) (σ : MM) : Prop := ∀ k, k < z → ∃ o : Nat, 1 ≤ o ∧ o ≤ 10 ∧ σ.1 256 (1100 + k) = nI o ∧ L k = cst (nI o) (σ.1 257 (1100 + k)) ∧ (o = 1 → ∃ v : Nat, v < 10000 ∧ σ.1 257 (1100 + k) = nI v) ∧ (o = 2 → ∃ v : Nat, v < 4 ∧ σ.1 257 (1100 + k) = nI v)
def EC (Q : TA) (t E : Nat) (L : Nat → Int32) (z : Nat) (σ : MM) : Prop := SC Q t E σ ∧ (∃ z', z' ≤ 1000 ∧ σ.1 25 2 = nI z') ∧ (E = 0 → LCs L z σ)
def EM (Q : TA) (m t E : Nat) (L : Nat → Int32) (z : Nat) (σ : MM) : Prop := SM Q m t E σ ∧ σ.1 249 13 = nI z ∧ (E = 0 → CMs L z σ)
/-- what the reading of a law may change: the class -/
def FEc (σ τ : MM) : Prop := (∀ b j, ¬ ((b = 1 ∧ j ≠ 1) ∨ (b = 25 ∧ j = 2) ∨ b = 26) → τ.1 b j = σ.1 b j) ∧ ∀ b j, b ≠ 1 → τ.2.1 b j = σ.2.1 b j
def Rem (b j : Nat) : Prop := (b = 249 ∧ (j = 7 ∨ j = 8 ∨ j = 13)) ∨ ((b = 256 ∨ b = 257) ∧ 1100 ≤ j)
theorem FEc_rf {σ : MM} : FEc σ σ := ⟨fun _ _ _ => rfl, fun _ _ _ => rfl⟩
theorem FEc_tr {σ τ υ : MM} (h1 : FEc σ τ) (h2 : FEc τ υ) : FEc σ υ := ⟨fun b j q => (h2.1 b j q).trans (h1.1 b j q), fun b j q => (h2.2 b j q).trans (h1.2 b j q)⟩
theorem FEc_t {σ τ : MM} (h : FT σ τ) : FEc σ τ := ⟨fun b j q => by
  by_cases z : b = 1
  · subst z
    have : j = 1 := by omega
    subst this
    exact h.2.1
  · exact h.1 b j z, fun b j q => h.2.2 b j q⟩
theorem FEc_r {R : Nat → Nat → Prop} {σ τ : MM} (h : eqr R σ τ) (hR : ∀ b j, R b j → (b = 1 ∧ j ≠ 1) ∨ (b = 25 ∧ j = 2) ∨ b = 26) : FEc σ τ := ⟨fun b j q => h.1 b j (fun z => q (hR b j z)), fun b j _ => by rw [h.2]⟩
theorem EC_s {Q : TA} {t E t2 E2 : Nat} {L : Nat → Int32} {z : Nat} {σ τ : MM} (h : EC Q t E L z σ) (hs : SC Q t2 E2 τ) (hF : FT σ τ) (hE : E2 = 0 → E = 0) : EC Q t2 E2 L z τ := by
  obtain ⟨-, ⟨z', h1, h2⟩, h3⟩ := h
  refine ⟨hs, ⟨z', h1, (hF.1 25 2 (by decide)).trans h2⟩, fun q => ?_⟩
  obtain ⟨k1, k2⟩ := h3 (hE q)
  exact ⟨(hF.1 25 2 (by decide)).trans k1, fun k hk => (hF.1 26 k (by decide)).trans (k2 k hk)⟩
theorem EM_s {Q : TA} {m t E t2 E2 : Nat} {L : Nat → Int32} {z : Nat} {σ τ : MM} (h : EM Q m t E L z σ) (hs : SM Q m t2 E2 τ) (hF : eqr Rat σ τ) (hE : E2 = 0 → E = 0) : EM Q m t2 E2 L z τ := by
  obtain ⟨-, h2, h3⟩ := h
  refine ⟨hs, (hF.1 _ _ (fun q => by unfold Rat at q; omega)).trans h2, fun q k hk => ?_⟩
  rw [hF.1 256 _ (fun q => by unfold Rat at q; omega), hF.1 257 _ (fun q => by unfold Rat at q; omega)]
  exact h3 (hE q) k hk
theorem Rat_em {σ τ : MM} (h : eqr Rat σ τ) : eqr Rem σ τ := eqr_mono h (fun b j z => by unfold Rat at z; unfold Rem; omega)
theorem c_addStep {Q : TA} {t E z : Nat} {L : Nat → Int32} {σ : MM} {s : Int32} (hz : E = 0 → z < 1000) (h : EC Q t E L z σ) : wp (FX0_addStep 25 s) σ (fun _ τ => EC Q t E (up1 L z s) (z + 1) τ ∧ FEc σ τ) := by
  obtain ⟨h1, ⟨z', hz1, hz2⟩, h3⟩ := h
  unfold FX0_addStep
  rw [r25_0]
  refine ws_gv hz2 ?_
  by_cases q : z' < 1000
  · rw [if_neg (show ¬ (1000 : Int32) ≤ nI z' from nle_n (b := 1000) q (by decide))]
    refine bd_asw (ws_gv hz2 (bd_asw (ws_u q (by decide) (bd_asw (ws_gv (x := nI z') ((mm_ne (by omega)).trans hz2) (bd_asw (ws_s ?_)))))))
    refine wp_eq (show pu () _ = some ((), _) from rfl) (wp_pu ?_)
    have hq : eqr (fun b j => (b = 25 ∧ j = 2) ∨ b = 26) σ (up2 (up2 σ.1 26 z' s) 25 2 (nI z' + 1), σ.2) := eqr_tr (eqr_up (by omega)) (eqr_up (σ := (up2 σ.1 26 z' s, σ.2)) (by omega))
    refine ⟨⟨SC_f h1 (fun j => hq.1 _ _ (by omega)) (fun j => hq.1 _ _ (by omega)) rfl rfl, ⟨z' + 1, by omega, mm_at.trans (nI_1 _)⟩, fun e => ?_⟩, FEc_r hq (fun b j z => by omega)⟩
    obtain ⟨k1, k2⟩ := h3 e
    have hzz : z' = z := (nI_eq (by omega) (by have := hz e; omega)).mp (hz2.symm.trans k1)
    subst hzz
    refine ⟨mm_at.trans (nI_1 _), fun k hk => (mm_ne (by omega)).trans ?_⟩
    by_cases z3 : k = z'
    · subst z3; rw [up1_at]; exact mm_at
    · rw [up1_ne z3]; exact (mm_ne (by omega)).trans (k2 k (by omega))
  · rw [if_pos (show (1000 : Int32) ≤ nI z' from nI_le (a := 1000) (by omega) (by omega))]
    refine wp_eq (show pu () σ = some ((), σ) from rfl) (wp_pu ⟨⟨h1, ⟨z', hz1, hz2⟩, fun e => ?_⟩, FEc_rf⟩)
    exfalso
    obtain ⟨k1, k2⟩ := h3 e
    have := hz e
    have hzz : z' = z := (nI_eq (by omega) (by omega)).mp (hz2.symm.trans k1)
    omega
theorem m_emit {Q : TA} {m t E z o a : Nat} {L : Nat → Int32} {σ : MM} (hz : z < 1100) (ho1 : 1 ≤ o) (ho2 : o ≤ 10) (ha : (o = 1 → a < 10000) ∧ (o = 2 → a < 4)) (h : EM Q m t E L z σ) : wp (FX12_emit 249 (nI o) (nI a)) σ (fun _ τ => EM Q m t E (up1 L z (cst (nI o) (nI a))) (z + 1) τ ∧ eqr Rem σ τ) := by
  obtain ⟨h1, h2, h3⟩ := h
  unfold FX12_emit
  rw [r249_11, r249_12]
  have ei : (1100 : Int32) + nI z = nI (1100 + z) := nI_add 1100 z
  refine ws_gv h2 ?_
  rw [ei]
  refine ws_u (by omega) (by decide) (ws_gv (x := nI z) ((mm_ne (by omega)).trans h2) ?_)
  rw [ei]
  refine ws_u (by omega) (by decide) (ws_gv (x := nI z) ((mm_ne (by omega)).trans ((mm_ne (by omega)).trans h2)) (ws_s (wp_pu ?_)))
  have hq : eqr (fun b j => (b = 249 ∧ j = 13) ∨ ((b = 256 ∨ b = 257) ∧ j = 1100 + z)) σ (up2 (up2 (up2 σ.1 256 (1100 + z) (nI o)) 257 (1100 + z) (nI a)) 249 13 (nI z + 1), σ.2) := eqr_tr (eqr_up (by omega)) (eqr_tr (eqr_up (σ := (up2 σ.1 256 (1100 + z) (nI o), σ.2)) (by omega)) (eqr_up (σ := (up2 (up2 σ.1 256 (1100 + z) (nI o)) 257 (1100 + z) (nI a), σ.2)) (by omega)))
  refine ⟨⟨SM_r h1 hq (fun b j z => by omega) h1.2.2.1 ((hq.1 _ _ (by omega)).trans h1.2.2.2.1) ((hq.1 _ _ (by omega)).trans h1.2.2.2.2), mm_at.trans (nI_1 _), fun e k hk => ?_⟩, eqr_mono hq (fun b j z => by unfold Rem; omega)⟩
  by_cases z3 : k = z
  · subst z3
    refine ⟨o, ho1, ho2, (mm_ne (by omega)).trans ((mm_ne (by omega)).trans mm_at), ?_, fun q => ⟨a, ha.1 q, (mm_ne (by omega)).trans mm_at⟩, fun q => ⟨a, ha.2 q, (mm_ne (by omega)).trans mm_at⟩⟩
    rw [up1_at]
    congr 1
    exact ((mm_ne (by omega)).trans mm_at).symm
  · rw [hq.1 256 _ (by omega), hq.1 257 _ (by omega), up1_ne z3]
    exact h3 e k (by omega)
/-- a piece of the law is read alike by both -/
def PX (Q : TA) (m : Nat) (C M : PP Unit) (B : Nat) : Prop := ∀ (t E : Nat) (L : Nat → Int32) (z : Nat), E < 20000 → t ≤ m → z < t → ∃ (t' E' : Nat) (L' : Nat → Int32) (z' : Nat), (E' < 20000 ∧ t ≤ t' ∧ t' ≤ m ∧ z ≤ z' ∧ z' + t ≤ t' + z ∧ (E' = 0 → B ≤ 23 ∧ E = 0 ∧ t < t' ∧ z < z' ∧ (∀ k, k < z → L' k = L k) ∧ WFs L' z z' B)) ∧ (∀ σ, EC Q t E L z σ → wp C σ (fun _ τ => EC Q t' E' L' z' τ ∧ FEc σ τ)) ∧ ∀ σ, EM Q m t E L z σ → wp M σ (fun _ τ => EM Q m t' E' L' z' τ ∧ eqr Rem σ τ)
theorem it_s {α β : Type} {body : α → PP (α ⊕ β)} {N : Nat} {a : α} {σ : MM} {P : β → MM → Prop} (h : wp (body a) σ (fun r τ => (∃ a', r = .inl a' ∧ wp (it body N a') τ P) ∨ (∃ b, r = .inr b ∧ P b τ))) : wp (it body (N + 1) a) σ P := by
  show wp (bd (body a) (Sum.elim (it body N) pu)) σ P
  refine wp_bd h (fun r τ q => ?_)
  rcases q with ⟨a', rfl, h1⟩ | ⟨b, rfl, h1⟩
  · exact h1
  · exact wp_pu h1
theorem FU_s : ∃ N, FU = N + 1 ∧ 9999 ≤ N := by
  have := FU_ge
  exact ⟨FU - 1, by omega, by omega⟩
/-- operand, then operators and operands -/
theorem px_loop {Q : TA} {m B : Nat} {C0 M0 : PP Unit} {bC : Int32 → PP (Int32 ⊕ Unit)} {bM : Unit → PP (Unit ⊕ Unit)} (vQ : VTa Q) (hm : m ≤ 1000) (hend : yT Q (tp Q m) = 0) (op : Nat → Option (Int32 × Nat)) (h0 : PX Q m C0 M0 (B + 1))
    (hok : ∀ t s o, op t = some (s, o) → ¬ yT Q (tp Q t) = 0 ∧ s < -4 ∧ ¬ s = -5 ∧ 1 ≤ o ∧ o ≤ 10 ∧ ¬ o = 1 ∧ ¬ o = 2 ∧ s = cst (nI o) (nI 0))
    (hCn : ∀ t E i σ, SC Q t E σ → (¬ E = 0 ∨ op t = none) → bC (nI i) σ = some (.inr (), σ))
    (hCx : ∀ i σ, 1000 ≤ i → i < 2000 → bC (nI i) σ = some (.inr (), σ))
    (hCy : ∀ t s o i σ, SC Q t 0 σ → op t = some (s, o) → i < 1000 → ∀ P, wp (bd (FX5_advance 1) (fun (_ : Unit) => bd C0 (fun (_ : Unit) => bd (FX0_addStep 25 s) (fun (_ : Unit) => lt (nI i + (1 : Int32)) (fun y => pu (Sum.inl y))))) : PP (Int32 ⊕ Unit)) σ P → wp (bC (nI i)) σ P)
    (hMn : ∀ t E σ, E < 20000 → SM Q m t E σ → (¬ E = 0 ∨ op t = none) → wp (bM ()) σ (fun r τ => r = .inr () ∧ SM Q m t E τ ∧ eqr Rat σ τ))
    (hMy : ∀ t s o σ, SM Q m t 0 σ → op t = some (s, o) → ∀ P, (∀ υ, SM Q m (t + 1) 0 υ → eqr Rat σ υ → wp (bd M0 (fun (_ : Unit) => bd (FX12_emit 249 (nI o) (0 : Int32)) (fun (_ : Unit) => pu (Sum.inl ()))) : PP (Unit ⊕ Unit)) υ P) → wp (bM ()) σ P) :
    ∀ (r : Nat) (t E : Nat) (L : Nat → Int32) (z z0 i : Nat), E < 20000 → t ≤ m → m - t ≤ r → z < t → i ≤ t → z0 ≤ z → (E = 0 → WFs L z0 z B) → ∃ (t' E' : Nat) (L' : Nat → Int32) (z' : Nat), (E' < 20000 ∧ t ≤ t' ∧ t' ≤ m ∧ z ≤ z' ∧ z' + t ≤ t' + z ∧ (E' = 0 → E = 0 ∧ (∀ k, k < z0 → L' k = L k) ∧ WFs L' z0 z' B)) ∧ (∀ σ N, r < N → EC Q t E L z σ → wp (it bC N (nI i)) σ (fun _ τ => EC Q t' E' L' z' τ ∧ FEc σ τ)) ∧ ∀ σ N, r < N → EM Q m t E L z σ → wp (it bM N ()) σ (fun _ τ => EM Q m t' E' L' z' τ ∧ eqr Rem σ τ) := by
  intro r
  induction r with
  | zero =>
    intro t E L z z0 i hE ht hr hz hi hz0 hw
    have htm : t = m := by omega
    refine ⟨t, E, L, z, ⟨hE, Nat.le_refl _, ht, Nat.le_refl _, by omega, fun e => ⟨e, fun _ _ => rfl, hw e⟩⟩, fun σ N hN hC => ?_, fun σ N hN hM => ?_⟩
    · cases N with
      | zero => omega
      | succ N =>
        refine it_s ⟨_, σ, ?_, Or.inr ⟨(), rfl, hC, FEc_rf⟩⟩
        cases ho : op t with
        | none => exact hCn t E i σ hC.1 (Or.inr ho)
        | some x =>
          by_cases e0 : E = 0
          · exfalso
            apply (hok t x.1 x.2 ho).1
            rw [htm]
            exact hend
          · exact hCn t E i σ hC.1 (Or.inl e0)
    · cases N with
      | zero => omega
      | succ N =>
        have hex : ¬ E = 0 ∨ op t = none := by
          by_cases e0 : E = 0
          · right
            cases ho : op t with
            | none => rfl
            | some x =>
              exfalso
              have := t_lt hM.1 (hok t x.1 x.2 ho).1
              omega
          · exact Or.inl e0
        refine it_s (wp_mono (hMn t E σ hE hM.1 hex) (fun q τ h => ?_))
        obtain ⟨rfl, h1, h2⟩ := h
        exact Or.inr ⟨(), rfl, EM_s hM h1 h2 (fun e => e), Rat_em h2⟩
  | succ r ih =>
    intro t E L z z0 i hE ht hr hz hi hz0 hw
    by_cases hex : ¬ E = 0 ∨ op t = none
    · refine ⟨t, E, L, z, ⟨hE, Nat.le_refl _, ht, Nat.le_refl _, by omega, fun e => ⟨e, fun _ _ => rfl, hw e⟩⟩, fun σ N hN hC => ?_, fun σ N hN hM => ?_⟩
      · cases N with
        | zero => omega
        | succ N => exact it_s ⟨_, σ, hCn t E i σ hC.1 hex, Or.inr ⟨(), rfl, hC, FEc_rf⟩⟩
      · cases N with
        | zero => omega
        | succ N =>
          refine it_s (wp_mono (hMn t E σ hE hM.1 hex) (fun q τ h => ?_))
          obtain ⟨rfl, h1, h2⟩ := h
          exact Or.inr ⟨(), rfl, EM_s hM h1 h2 (fun e => e), Rat_em h2⟩
    · have e0 : E = 0 := Classical.byContradiction (fun n => hex (Or.inl n))
      subst e0
      cases ho : op t with
      | none => exact absurd (Or.inr ho) hex
      | some x =>
        obtain ⟨s, o⟩ := x
        obtain ⟨hy, hs, hs5, ho1, ho2, ho3, ho4, hso⟩ := hok t s o ho
        have htm : t < m := by
          apply Classical.byContradiction
          intro n
          apply hy
          rw [show t = m by omega]
          exact hend
        obtain ⟨t1, E1, L1, z1, ⟨p1, p2, p3, p4, p5, p6⟩, pC, pM⟩ := h0 (t + 1) 0 L z (by decide) (by omega) (by omega)
        obtain ⟨t', E', L', z', ⟨q1, q2, q3, q4, q5, q6⟩, qC, qM⟩ := ih t1 E1 (up1 L1 z1 s) (z1 + 1) z0 (i + 1) p1 p3 (by omega) (by omega) (by omega) (by omega) (fun e => by
          obtain ⟨rb, -, r2, r3, r4, r5⟩ := p6 e
          exact WFs_bin (by omega) p4 hs hs5 (by omega) (WFs_c (by omega) r4 (hw rfl)) r5)
        refine ⟨t', E', L', z', ⟨q1, by omega, q3, by omega, by omega, fun e => ?_⟩, fun σ N hN hC => ?_, fun σ N hN hM => ?_⟩
        · obtain ⟨r1, r2, r3⟩ := q6 e
          obtain ⟨rb, -, r5, r6, r7, r8⟩ := p6 r1
          exact ⟨rfl, fun k hk => by rw [r2 k hk, up1_ne (by omega), r7 k (by omega)], r3⟩
        · cases N with
          | zero => omega
          | succ N =>
            refine it_s (hCy t s o i σ hC.1 ho (by omega) _ ?_)
            refine wp_bd (c_adv vQ hC.1) ?_
            rintro _ τ1 ⟨s1, f1⟩
            refine wp_bd (pC τ1 (EC_s hC s1 f1 (fun e => e))) ?_
            rintro _ τ2 ⟨s2, f2⟩
            refine wp_bd (c_addStep (s := s) (fun e => by omega) s2) ?_
            rintro _ τ3 ⟨s3, f3⟩
            rw [lt_eq, nI_1]
            refine wp_pu (Or.inl ⟨_, rfl, wp_mono (qC τ3 N (by omega) s3) (fun _ τ4 q => ⟨q.1, FEc_tr (FEc_t f1) (FEc_tr f2 (FEc_tr f3 q.2))⟩)⟩)
        · cases N with
          | zero => omega
          | succ N =>
            refine it_s (hMy t s o σ hM.1 ho _ (fun υ s1 f1 => ?_))
            refine wp_bd (pM υ (EM_s hM s1 f1 (fun e => e))) ?_
            rintro _ τ2 ⟨s2, f2⟩
            refine wp_bd (m_emit (a := 0) (by omega) ho1 ho2 ⟨fun q => absurd q ho3, fun q => absurd q ho4⟩ s2) ?_
            rintro _ τ3 ⟨s3, f3⟩
            rw [← hso] at s3
            exact wp_pu (Or.inl ⟨_, rfl, wp_mono (qM τ3 N (by omega) s3) (fun _ τ4 q => ⟨q.1, eqr_tr (Rat_em f1) (eqr_tr f2 (eqr_tr f3 q.2))⟩)⟩)
