/-! ===== rests: both sides answer alike ===== -/
noncomputable def FX12_restB (p1 p2 p3 p4 v4 : Int32) : Int32 × Int32 × Int32 → PP ((Int32 × Int32 × Int32) ⊕ (Int32 × Int32)) := (fun (s5 : Int32 × Int32 × Int32) => (if (4 : Int32) ≤ s5.2.2 then pu (Sum.inr (s5.1, s5.2.1)) else if v4 = 0 then pu (Sum.inr (s5.1, s5.2.1)) else bd (gd (¬ (2 : Int32) = 0)) (fun (_ : Unit) => lt (s5.2.2 / (2 : Int32)) (fun y6 => bd (gd (¬ (2 : Int32) = 0)) (fun (_ : Unit) => lt (s5.2.2 - s5.2.2 / (2 : Int32) * (2 : Int32)) (fun y7 => bd (FX12_getsBy ((1 : Int32) - y6) y7 p1 p2 p3) (fun x8 => bd (FX12_getsBy y6 y7 p1 p2 p3) (fun x9 => bd (if x9 < x8 then pu (0 : Int32) else bd (FX12_getsBy ((1 : Int32) - y7) y6 p1 p2 p3) (fun x10 => bd (FX12_getsBy y7 y6 p1 p2 p3) (fun x11 => if x11 < x10 then pu (0 : Int32) else pu (1 : Int32))) : PP (Int32)) (fun (v12 : Int32) => bd (if v12 = 0 then pu s5.2.1 else if s5.1 = p4 then pu s5.2.2 else pu s5.2.1 : PP (Int32)) (fun (v13 : Int32) => bd (if v12 = 0 then pu (0 : Int32) else pu (1 : Int32) : PP (Int32)) (fun (v14 : Int32) => lt (s5.1 + v14) (fun y15 => lt (s5.2.2 + (1 : Int32)) (fun y16 => pu (Sum.inl (y15, v13, y16))))))))))))) : PP ((Int32 × Int32 × Int32) ⊕ (Int32 × Int32))))
theorem FX12_rests_eq (a0 : Nat) (p1 p2 p3 p4 : Int32) : FX12_rests a0 p1 p2 p3 p4 = bd (FX12_within p1 (0 : Int32) (9 : Int32)) (fun x1 => bd (if ((b2i x1)) = 0 then pu (0 : Int32) else bd (FX12_within p2 (0 : Int32) (9 : Int32)) (fun x2 => if ((b2i x2)) = 0 then pu (0 : Int32) else bd (FX12_within p3 (0 : Int32) (9 : Int32)) (fun x3 => if ((b2i x3)) = 0 then pu (0 : Int32) else if p4 < (-1 : Int32) then pu (0 : Int32) else pu (1 : Int32))) : PP (Int32)) (fun (v4 : Int32) => bd (it (FX12_restB p1 p2 p3 p4 v4) FU ((0 : Int32), (-1 : Int32), (0 : Int32))) (fun (v17 : Int32 × Int32) => bd (if v4 = 0 then pu (1 : Int32) else if p4 < 0 then pu (0 : Int32) else if v17.2 < 0 then pu (1 : Int32) else pu (0 : Int32) : PP (Int32)) (fun (v18 : Int32) => bd (sI a0 0 v18) (fun (_ : Unit) => bd (gI a0 0) (fun x19 => bd (if x19 ≤ 0 then if 0 ≤ p4 then pu v17.2 else pu v17.1 else pu (0 : Int32) : PP (Int32)) (fun (v20 : Int32) => pu v20))))))) := rfl
def gn (p1 p2 p3 x y : Int32) : Int32 := if x = 1 then (if y = 1 then p1 else -p2) else (if y = 1 then p3 else 0)
theorem gain_ev (p1 p2 p3 x y : Int32) (σ : MM) : FX11_gain p1 p2 p3 x y σ = some (gn p1 p2 p3 x y, σ) := by
  unfold FX11_gain gn
  by_cases h1 : x = 1
  · by_cases h2 : y = 1
    · simp [h1, h2, bd, pu]
    · simp [h1, h2, bd, pu]
  · by_cases h2 : y = 1
    · simp [h1, h2, bd, pu]
    · simp [h1, h2, bd, pu]
theorem gets_ev (p1 p2 p3 x y : Int32) (σ : MM) : FX12_getsBy x y p1 p2 p3 σ = some (gn p1 p2 p3 x y, σ) := by
  unfold FX12_getsBy gn
  by_cases h1 : x = 1
  · by_cases h2 : y = 1
    · simp [h1, h2, bd, pu]
    · simp [h1, h2, bd, pu]
  · by_cases h2 : y = 1
    · simp [h1, h2, bd, pu]
    · simp [h1, h2, bd, pu]
def rs (p1 p2 p3 u v : Int32) : Bool := decide (¬ gn p1 p2 p3 u v < gn p1 p2 p3 (1 - u) v) && decide (¬ gn p1 p2 p3 v u < gn p1 p2 p3 (1 - v) u)
theorem isr_ev (p1 p2 p3 j : Int32) (σ : MM) : FX11_isRest p1 p2 p3 j σ = some (rs p1 p2 p3 (j >>> ((1 : Int32) &&& 31)) (j &&& (1 : Int32)), σ) := by
  unfold FX11_isRest lt rs
  dsimp only
  rw [ev_bd (gain_ev _ _ _ _ _ _), ev_bd (gain_ev _ _ _ _ _ _)]
  generalize j >>> ((1 : Int32) &&& 31) = u
  generalize j &&& (1 : Int32) = v
  by_cases h1 : gn p1 p2 p3 u v < gn p1 p2 p3 (1 - u) v
  · simp [h1, bd, pu, zb]
  · by_cases h2 : gn p1 p2 p3 v u < gn p1 p2 p3 (1 - v) u
    · simp [h1, h2, bd, pu, zb, gain_ev]
    · simp [h1, h2, bd, pu, zb, gain_ev]
def stk (p : Int32) : Bool := decide (¬ p < 0) && decide (¬ 9 < p)
theorem stk_ev (p : Int32) (σ : MM) : FX11_isStake p σ = some (stk p, σ) := by
  unfold FX11_isStake stk
  by_cases h1 : p < 0
  · simp [h1, bd, pu, zb]
  · by_cases h2 : 9 < p
    · simp [h1, h2, bd, pu, zb]
    · simp [h1, h2, bd, pu, zb]
theorem wit_ev (p : Int32) (σ : MM) : FX12_within p (0 : Int32) (9 : Int32) σ = some (stk p, σ) := by
  unfold FX12_within stk
  by_cases h1 : p < 0
  · simp [h1, bd, pu, zb]
  · by_cases h2 : 9 < p
    · simp [h1, h2, bd, pu, zb]
    · simp [h1, h2, bd, pu, zb]
/-- the class's search -/
def cl4 (p4 : Int32) : List (Bool × Int32) → Int32 → Option Int32
  | [], f => if p4 = -1 then some f else none
  | (b, j) :: r, f => if b then (if f = p4 then some j else cl4 p4 r (f + 1)) else cl4 p4 r f
/-- the model's -/
def ml4 (p4 : Int32) : List (Bool × Int32) → Int32 → Int32 → Int32 × Int32
  | [], f, a => (f, a)
  | (b, j) :: r, f, a => if b then ml4 p4 r (f + 1) (if f = p4 then j else a) else ml4 p4 r f a
theorem it_L {α β : Type} {body : α → PP (α ⊕ β)} {N : Nat} {a a' : α} {σ σ' : MM} (h : body a σ = some (Sum.inl a', σ')) : it body (N + 1) a σ = it body N a' σ' := by
  show bd (body a) _ σ = _
  rw [ev_bd h]
  rfl
theorem it_R {α β : Type} {body : α → PP (α ⊕ β)} {N : Nat} {a : α} {b : β} {σ σ' : MM} (h : body a σ = some (Sum.inr b, σ')) : it body (N + 1) a σ = some (b, σ') := by
  show bd (body a) _ σ = _
  rw [ev_bd h]
  rfl
theorem rc_end (p1 p2 p3 p4 f : Int32) (N : Nat) (σ : MM) : it (FX11_restB p1 p2 p3 p4) (N + 1) (f, 4) σ = some (cl4 p4 [] f, σ) := by
  refine it_R ?_
  unfold FX11_restB cl4
  rw [if_pos (by show (4 : Int32) ≤ 4; decide)]
  by_cases h : p4 = -1
  · rw [if_pos h, if_pos h]; rfl
  · rw [if_neg h, if_neg h]; rfl
theorem rc_step (p1 p2 p3 p4 j j2 : Int32) (N : Nat) (σ : MM) (js : List (Bool × Int32)) (hj : ¬ (4 : Int32) ≤ j) (hj2 : j + 1 = j2) (ih : ∀ f, it (FX11_restB p1 p2 p3 p4) N (f, j2) σ = some (cl4 p4 js f, σ)) (f : Int32) : it (FX11_restB p1 p2 p3 p4) (N + 1) (f, j) σ = some (cl4 p4 ((rs p1 p2 p3 (j >>> ((1 : Int32) &&& 31)) (j &&& (1 : Int32)), j) :: js) f, σ) := by
  subst hj2
  generalize hb : rs p1 p2 p3 (j >>> ((1 : Int32) &&& 31)) (j &&& (1 : Int32)) = b
  have he : FX11_isRest p1 p2 p3 j σ = some (b, σ) := by rw [isr_ev, hb]
  have hB : FX11_restB p1 p2 p3 p4 (f, j) σ = (if b2i b = 0 then pu (Sum.inl (f, j + 1)) else if f = p4 then pu (Sum.inr (some j)) else pu (Sum.inl (f + 1, j + 1)) : PP ((Int32 × Int32) ⊕ Option Int32)) σ := by
    unfold FX11_restB
    rw [if_neg (by exact hj)]
    exact ev_bd he
  cases b with
  | false =>
    refine (it_L (a' := (f, j + 1)) (σ' := σ) ?_).trans (ih f)
    rw [hB]; rfl
  | true =>
    by_cases h : f = p4
    · refine (it_R (b := some j) (σ' := σ) ?_).trans ?_
      · rw [hB]; simp [b2i, h, pu]
      · simp [cl4, h]
    · refine (it_L (a' := (f + 1, j + 1)) (σ' := σ) ?_).trans ?_
      · rw [hB]; simp [b2i, h, pu]
      · rw [ih (f + 1)]; simp [cl4, h]
def js4 (p1 p2 p3 : Int32) : List (Bool × Int32) := [(rs p1 p2 p3 0 0, 0), (rs p1 p2 p3 0 1, 1), (rs p1 p2 p3 1 0, 2), (rs p1 p2 p3 1 1, 3)]
theorem FU5 : ∃ N, FU = N + 5 := ⟨FU - 5, by have := FU_ge; omega⟩
theorem rc_loop (p1 p2 p3 p4 : Int32) (σ : MM) : it (FX11_restB p1 p2 p3 p4) FU ((0 : Int32), (0 : Int32)) σ = some (cl4 p4 (js4 p1 p2 p3) 0, σ) := by
  obtain ⟨N, e⟩ := FU5
  rw [e]
  exact rc_step p1 p2 p3 p4 0 1 (N + 4) σ _ (by decide) (by decide) (rc_step p1 p2 p3 p4 1 2 (N + 3) σ _ (by decide) (by decide) (rc_step p1 p2 p3 p4 2 3 (N + 2) σ _ (by decide) (by decide) (rc_step p1 p2 p3 p4 3 4 (N + 1) σ _ (by decide) (by decide) (fun f => rc_end p1 p2 p3 p4 f N σ)))) 0
theorem rm_end (p1 p2 p3 p4 v4 f a : Int32) (N : Nat) (σ : MM) : it (FX12_restB p1 p2 p3 p4 v4) (N + 1) (f, a, 4) σ = some (ml4 p4 [] f a, σ) := by
  refine it_R ?_
  unfold FX12_restB ml4
  rw [if_pos (by show (4 : Int32) ≤ 4; decide)]
  rfl
theorem rm_step (p1 p2 p3 p4 v4 j j2 : Int32) (N : Nat) (σ : MM) (js : List (Bool × Int32)) (hv : ¬ v4 = 0) (hj : ¬ (4 : Int32) ≤ j) (hj2 : j + 1 = j2) (ih : ∀ f a, it (FX12_restB p1 p2 p3 p4 v4) N (f, a, j2) σ = some (ml4 p4 js f a, σ)) (f a : Int32) : it (FX12_restB p1 p2 p3 p4 v4) (N + 1) (f, a, j) σ = some (ml4 p4 ((rs p1 p2 p3 (j / 2) (j - j / 2 * 2), j) :: js) f a, σ) := by
  subst hj2
  have h20 : ¬ (2 : Int32) = 0 := by decide
  have hB : FX12_restB p1 p2 p3 p4 v4 (f, a, j) σ = some (Sum.inl (f + (if rs p1 p2 p3 (j / 2) (j - j / 2 * 2) then 1 else 0), (if rs p1 p2 p3 (j / 2) (j - j / 2 * 2) then (if f = p4 then j else a) else a), j + 1), σ) := by
    unfold FX12_restB rs
    simp only [if_neg hj, if_neg hv]
    generalize j / 2 = u
    generalize j - u * 2 = v
    by_cases h1 : gn p1 p2 p3 u v < gn p1 p2 p3 (1 - u) v
    · simp [bd, gd, lt, gets_ev, pu, h1]
    · by_cases h2 : gn p1 p2 p3 v u < gn p1 p2 p3 (1 - v) u
      · simp [bd, gd, lt, gets_ev, pu, h1, h2]
      · by_cases h3 : f = p4
        · simp [bd, gd, lt, gets_ev, pu, h1, h2, h3]
        · simp [bd, gd, lt, gets_ev, pu, h1, h2, h3]
  rw [it_L hB, ih]
  cases rs p1 p2 p3 (j / 2) (j - j / 2 * 2) with
  | false => simp [ml4]
  | true => simp [ml4]
theorem rm_loop (p1 p2 p3 p4 v4 : Int32) (hv : ¬ v4 = 0) (σ : MM) : it (FX12_restB p1 p2 p3 p4 v4) FU ((0 : Int32), (-1 : Int32), (0 : Int32)) σ = some (ml4 p4 (js4 p1 p2 p3) 0 (-1), σ) := by
  obtain ⟨N, e⟩ := FU5
  rw [e]
  exact rm_step p1 p2 p3 p4 v4 0 1 (N + 4) σ _ hv (by decide) (by decide) (rm_step p1 p2 p3 p4 v4 1 2 (N + 3) σ _ hv (by decide) (by decide) (rm_step p1 p2 p3 p4 v4 2 3 (N + 2) σ _ hv (by decide) (by decide) (rm_step p1 p2 p3 p4 v4 3 4 (N + 1) σ _ hv (by decide) (by decide) (fun f a => rm_end p1 p2 p3 p4 v4 f a N σ)))) 0 (-1)
theorem rm_loop0 (p1 p2 p3 p4 : Int32) (σ : MM) : it (FX12_restB p1 p2 p3 p4 0) FU ((0 : Int32), (-1 : Int32), (0 : Int32)) σ = some (((0 : Int32), (-1 : Int32)), σ) := by
  obtain ⟨N, e⟩ := FU5
  rw [e]
  refine it_R ?_
  unfold FX12_restB
  rw [if_neg (by show ¬ (4 : Int32) ≤ 0; decide), if_pos rfl]
  rfl
theorem m1_of {p : Int32} (h1 : p < 0) (h2 : -1 ≤ p) : p = -1 := by
  apply Int32.toInt_inj.mp
  have a := Int32.lt_iff_toInt_lt.mp h1
  have b := Int32.le_iff_toInt_le.mp h2
  have c : (-1 : Int32).toInt = -1 := by decide
  have d : (0 : Int32).toInt = 0 := by decide
  omega
theorem cm_of (b0 b1 b2 b3 : Bool) (p4 : Int32) (h : -1 ≤ p4) : (p4 < 0 → cl4 p4 [(b0, 0), (b1, 1), (b2, 2), (b3, 3)] 0 = some (ml4 p4 [(b0, 0), (b1, 1), (b2, 2), (b3, 3)] 0 (-1)).1) ∧ (¬ p4 < 0 → ((ml4 p4 [(b0, 0), (b1, 1), (b2, 2), (b3, 3)] 0 (-1)).2 < 0 → cl4 p4 [(b0, 0), (b1, 1), (b2, 2), (b3, 3)] 0 = none) ∧ (¬ (ml4 p4 [(b0, 0), (b1, 1), (b2, 2), (b3, 3)] 0 (-1)).2 < 0 → cl4 p4 [(b0, 0), (b1, 1), (b2, 2), (b3, 3)] 0 = some (ml4 p4 [(b0, 0), (b1, 1), (b2, 2), (b3, 3)] 0 (-1)).2)) := by
  by_cases e0 : p4 = 0
  · subst e0; revert b0 b1 b2 b3; decide +kernel
  by_cases e1 : p4 = 1
  · subst e1; revert b0 b1 b2 b3; decide +kernel
  by_cases e2 : p4 = 2
  · subst e2; revert b0 b1 b2 b3; decide +kernel
  by_cases e3 : p4 = 3
  · subst e3; revert b0 b1 b2 b3; decide +kernel
  by_cases e4 : p4 = -1
  · subst e4; revert b0 b1 b2 b3; decide +kernel
  have g0 : ¬ (0 : Int32) = p4 := fun q => e0 q.symm
  have g1 : ¬ (0 + 1 : Int32) = p4 := fun q => e1 (q.symm.trans (by decide))
  have g2 : ¬ (0 + 1 + 1 : Int32) = p4 := fun q => e2 (q.symm.trans (by decide))
  have g3 : ¬ (0 + 1 + 1 + 1 : Int32) = p4 := fun q => e3 (q.symm.trans (by decide))
  have hm : (-1 : Int32) < 0 := by decide
  refine ⟨fun q => absurd (m1_of q h) e4, fun _ => ?_⟩
  cases b0 <;> cases b1 <;> cases b2 <;> cases b3 <;> simp only [cl4, ml4, g0, g1, g2, g3, e4, hm, if_true, if_false, Bool.false_eq_true, reduceIte, not_true_eq_false, false_implies, implies_true, and_self, forall_const]
def cR (p1 p2 p3 p4 : Int32) : Option Int32 := if (stk p1 && stk p2 && stk p3 && decide (-1 ≤ p4)) = true then cl4 p4 (js4 p1 p2 p3) 0 else none
theorem rc_rests (p1 p2 p3 p4 : Int32) (σ : MM) : FX11_rests p1 p2 p3 p4 σ = some (cR p1 p2 p3 p4, σ) := by
  unfold FX11_rests cR
  rw [ev_bd (stk_ev p1 σ)]
  cases stk p1 with
  | false => simp [b2i, pu]
  | true =>
    rw [if_neg (by decide), ev_bd (stk_ev p2 σ)]
    cases stk p2 with
    | false => simp [b2i, pu]
    | true =>
      rw [if_neg (by decide), ev_bd (stk_ev p3 σ)]
      cases stk p3 with
      | false => simp [b2i, pu]
      | true =>
        rw [if_neg (by decide)]
        by_cases h : (-1 : Int32) ≤ p4
        · rw [if_pos h, rc_loop]
          simp [h]
        · rw [if_neg h]
          simp [h, pu]
theorem rm_v4 (p1 p2 p3 p4 : Int32) (σ : MM) : (if ((b2i (stk p1))) = 0 then pu (0 : Int32) else bd (FX12_within p2 (0 : Int32) (9 : Int32)) (fun x2 => if ((b2i x2)) = 0 then pu (0 : Int32) else bd (FX12_within p3 (0 : Int32) (9 : Int32)) (fun x3 => if ((b2i x3)) = 0 then pu (0 : Int32) else if p4 < (-1 : Int32) then pu (0 : Int32) else pu (1 : Int32))) : PP (Int32)) σ = some (b2i (stk p1 && stk p2 && stk p3 && decide (-1 ≤ p4)), σ) := by
  cases stk p1 with
  | false => simp [b2i, pu]
  | true =>
    rw [if_neg (by decide), ev_bd (wit_ev p2 σ)]
    cases stk p2 with
    | false => simp [b2i, pu]
    | true =>
      rw [if_neg (by decide), ev_bd (wit_ev p3 σ)]
      cases stk p3 with
      | false => simp [b2i, pu]
      | true =>
        rw [if_neg (by decide)]
        by_cases h : p4 < (-1 : Int32)
        · rw [if_pos h, decide_eq_false (Int32.not_le.mpr h)]
          simp [b2i, pu]
        · rw [if_neg h, decide_eq_true (Int32.not_lt.mp h)]
          simp [b2i, pu]
theorem rm_tail (a0 : Nat) (p4 v4 F A v x : Int32) (σ : MM) (hv : (if v4 = 0 then (1 : Int32) else if p4 < 0 then 0 else if A < 0 then 1 else 0) = v) (hx : (if v ≤ 0 then (if 0 ≤ p4 then A else F) else 0) = x) : bd (if v4 = 0 then pu (1 : Int32) else if p4 < 0 then pu (0 : Int32) else if A < 0 then pu (1 : Int32) else pu (0 : Int32) : PP (Int32)) (fun (v18 : Int32) => bd (sI a0 0 v18) (fun (_ : Unit) => bd (gI a0 0) (fun x19 => bd (if x19 ≤ 0 then if 0 ≤ p4 then pu A else pu F else pu (0 : Int32) : PP (Int32)) (fun (v20 : Int32) => pu v20)))) σ = some (x, (up2 σ.1 a0 0 v, σ.2)) := by
  have h1 : (if v4 = 0 then pu (1 : Int32) else if p4 < 0 then pu (0 : Int32) else if A < 0 then pu (1 : Int32) else pu (0 : Int32) : PP (Int32)) σ = some (v, σ) := by
    subst hv
    by_cases q1 : v4 = 0
    · simp [q1, pu]
    · by_cases q2 : p4 < 0
      · simp [q1, q2, pu]
      · by_cases q3 : A < 0
        · simp [q1, q2, q3, pu]
        · simp [q1, q2, q3, pu]
  have h2 : sI a0 0 v σ = some ((), (up2 σ.1 a0 0 v, σ.2)) := rfl
  have h3 : gI a0 0 (up2 σ.1 a0 0 v, σ.2) = some (v, (up2 σ.1 a0 0 v, σ.2)) := by simp [gI, up2]
  rw [ev_bd h1, ev_bd h2, ev_bd h3]
  subst hx
  by_cases q1 : v ≤ 0
  · by_cases q2 : 0 ≤ p4
    · simp [q1, q2, bd, pu]
    · simp [q1, q2, bd, pu]
  · simp [q1, bd, pu]
theorem rm_rests (p1 p2 p3 p4 : Int32) (σ : MM) : ∃ x, FX12_rests 249 p1 p2 p3 p4 σ = some (x, (up2 σ.1 249 0 (rcd (cR p1 p2 p3 p4)), σ.2)) ∧ ∀ i, cR p1 p2 p3 p4 = some i → x = i := by
  rw [FX12_rests_eq, ev_bd (wit_ev p1 σ), ev_bd (rm_v4 p1 p2 p3 p4 σ)]
  unfold cR
  by_cases hb : (stk p1 && stk p2 && stk p3 && decide (-1 ≤ p4)) = true
  · rw [hb]
    have hp : (-1 : Int32) ≤ p4 := by
      simp only [Bool.and_eq_true, decide_eq_true_eq] at hb
      exact hb.2
    have hcm := cm_of (rs p1 p2 p3 0 0) (rs p1 p2 p3 0 1) (rs p1 p2 p3 1 0) (rs p1 p2 p3 1 1) p4 hp
    rw [ev_bd (rm_loop p1 p2 p3 p4 (b2i true) (by decide) σ), if_pos rfl]
    unfold js4
    generalize cl4 p4 [(rs p1 p2 p3 0 0, 0), (rs p1 p2 p3 0 1, 1), (rs p1 p2 p3 1 0, 2), (rs p1 p2 p3 1 1, 3)] 0 = R at hcm ⊢
    generalize ml4 p4 [(rs p1 p2 p3 0 0, 0), (rs p1 p2 p3 0 1, 1), (rs p1 p2 p3 1 0, 2), (rs p1 p2 p3 1 1, 3)] 0 (-1) = V at hcm ⊢
    obtain ⟨F, A⟩ := V
    have ht : ¬ b2i true = 0 := by decide
    by_cases h4 : p4 < 0
    · have hR := hcm.1 h4
      subst hR
      exact ⟨F, rm_tail 249 p4 (b2i true) F A 0 F σ (by rw [if_neg ht, if_pos h4]) (by rw [if_pos (by decide), if_neg (Int32.not_le.mpr h4)]), fun i q => Option.some.inj q⟩
    · by_cases hA : A < 0
      · have hR := (hcm.2 h4).1 hA
        subst hR
        exact ⟨0, rm_tail 249 p4 (b2i true) F A 1 0 σ (by rw [if_neg ht, if_neg h4, if_pos hA]) (by rw [if_neg (by decide)]), fun i q => nomatch q⟩
      · have hR := (hcm.2 h4).2 hA
        subst hR
        exact ⟨A, rm_tail 249 p4 (b2i true) F A 0 A σ (by rw [if_neg ht, if_neg h4, if_neg hA]) (by rw [if_pos (by decide), if_pos (Int32.not_lt.mp h4)]), fun i q => Option.some.inj q⟩
  · rw [if_neg hb]
    have hf : (stk p1 && stk p2 && stk p3 && decide (-1 ≤ p4)) = false := by
      cases h : (stk p1 && stk p2 && stk p3 && decide (-1 ≤ p4))
      · rfl
      · exact absurd h hb
    rw [hf]
    have e0 : b2i false = 0 := rfl
    rw [e0, ev_bd (rm_loop0 p1 p2 p3 p4 σ)]
    exact ⟨0, rm_tail 249 p4 0 0 (-1) 1 0 σ (by rw [if_pos rfl]) (by rw [if_neg (by decide)]), fun i q => nomatch q⟩
theorem ok_29 {σ : MM} (h : Inv σ) (q : Nat → Int32) : okC (fun chk => TL_29 chk q) σ := by
  intro chk hc
  obtain ⟨A, hV, hC, hM⟩ := h
  generalize hR : cR (q 1) (q 2) (q 3) (q 4) = R
  have h1 : FL_rests (q 1) (q 2) (q 3) (q 4) σ = some (rcd R, rst R σ) := by
    unfold FL_rests
    rw [ev_bd (rc_rests _ _ _ _ σ), hR]
  obtain ⟨x, h2, h3⟩ := rm_rests (q 1) (q 2) (q 3) (q 4) (rst R σ)
  rw [hR] at h2 h3
  have hf1 : (rst R σ).1 = σ.1 := by cases R <;> rfl
  have hf2 : ∀ b j, b ≠ 270 → (rst R σ).2.1 b j = σ.2.1 b j := by
    intro b j hb
    cases R with
    | none => rfl
    | some i => simp [rst, up2, hb]
  generalize hυ : ((up2 (rst R σ).1 249 0 (rcd R), (rst R σ).2) : MM) = υ at h2
  have e1 : ∀ b j, ¬ (b = 249 ∧ j = 0) → υ.1 b j = σ.1 b j := by
    intro b j hb
    rw [← hυ, hf1]
    simp only [up2]
    rw [if_neg hb]
  have e2 : ∀ b j, b ≠ 270 → υ.2.1 b j = σ.2.1 b j := by
    intro b j hb
    rw [← hυ]
    exact hf2 b j hb
  have hi : Inv υ := ⟨A, hV, CA_g (fun b j h1 _ => e1 b j (by omega)) (fun b j q1 q2 => e2 b j (by omega)) hC, MA_g hV (fun b j h1 h2 => e1 b j (fun q => h2 (Or.inl (by omega)))) (fun b j q => e2 b j (by omega)) hM⟩
  refine ⟨υ, ?_, hi⟩
  have h4 : FX12_thrown 249 υ = some (rcd R, υ) := by
    rw [← hυ]
    simp [FX12_thrown, bd, gI, pu, up2]
  show bd (FL_rests (q 1) (q 2) (q 3) (q 4)) _ σ = _
  rw [ev_bd h1, ev_bd h2, ev_bd h4, if_pos rfl]
  cases R with
  | none =>
    rw [if_neg (by decide)]
    exact hc υ hi
  | some i =>
    have hx : x = i := h3 i rfl
    subst hx
    rw [if_pos (show rcd (some x) = 0 from rfl)]
    have h5 : aL 270 1 (0 : Int32) υ = some (x.toInt64, υ) := by
      rw [← hυ]
      have hb : ib (0 : Int32) 1 = true := by decide
      have h0 : (0 : Int32).toNatClampNeg = 0 := by decide
      unfold aL
      rw [if_pos hb, h0]
      simp [rst, up2]
    rw [ev_bd h5]
    have h6 : lg_cmp x.toInt64 x.toInt64 = 0 := by simp [lg_cmp]
    rw [if_pos h6]
    exact hc υ hi
