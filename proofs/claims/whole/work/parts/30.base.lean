/-! ===== evaluation ===== -/
theorem ev_bd {α β : Type} {c : PP α} {k : α → PP β} {σ σ1 : MM} {x : α} (h : c σ = some (x, σ1)) : bd c k σ = k x σ1 := by unfold bd; rw [h]
theorem ib_n {k n : Nat} (h : k < n) (hn : n < 2 ^ 31) : ib (nI k) n = true := by
  unfold ib
  rw [nI_clamp (by omega)]
  simp only [Bool.and_eq_true, decide_eq_true_eq]
  exact ⟨nI_pos (by omega), h⟩
theorem cl_n {k : Nat} (h : k < 2 ^ 31) : (nI k).toNatClampNeg = k := nI_clamp h
theorem ev_aI {a n k : Nat} {σ : MM} (h : k < n) (hn : n < 2 ^ 31) : aI a n (nI k) σ = some (σ.1 a k, σ) := by
  unfold aI
  rw [if_pos (ib_n h hn), cl_n (by omega)]
theorem ev_aL {a n k : Nat} {σ : MM} (h : k < n) (hn : n < 2 ^ 31) : aL a n (nI k) σ = some (σ.2.1 a k, σ) := by
  unfold aL
  rw [if_pos (ib_n h hn), cl_n (by omega)]
theorem ev_uI {a n k : Nat} {x : Int32} {σ : MM} (h : k < n) (hn : n < 2 ^ 31) : uI a n (nI k) x σ = some ((), (up2 σ.1 a k x, σ.2)) := by
  unfold uI
  rw [if_pos (ib_n h hn), cl_n (by omega)]
theorem ev_uL {a n k : Nat} {x : Int64} {σ : MM} (h : k < n) (hn : n < 2 ^ 31) : uL a n (nI k) x σ = some ((), (σ.1, up2 σ.2.1 a k x, σ.2.2)) := by
  unfold uL
  rw [if_pos (ib_n h hn), cl_n (by omega)]
theorem it_st {α β : Type} {body : α → PP (α ⊕ β)} (f : Nat → α) (g : Nat → MM) (m : Nat) {r : β} {σ' : MM} (hs : ∀ k, k < m → body (f k) (g k) = some (.inl (f (k + 1)), g (k + 1))) (he : body (f m) (g m) = some (.inr r, σ')) {N : Nat} (hN : m < N) : it body N (f 0) (g 0) = some (r, σ') := by
  have key : ∀ j k, k + j = m → ∀ N, j < N → it body N (f k) (g k) = some (r, σ') := by
    intro j
    induction j with
    | zero =>
      intro k hk N hN
      have : k = m := by omega
      subst this
      cases N with
      | zero => omega
      | succ N =>
        show bd (body (f k)) (Sum.elim (it body N) pu) (g k) = _
        rw [ev_bd he]
        rfl
    | succ j ih =>
      intro k hk N hN
      cases N with
      | zero => omega
      | succ N =>
        show bd (body (f k)) (Sum.elim (it body N) pu) (g k) = _
        rw [ev_bd (hs k (by omega))]
        exact ih (k + 1) (by omega) N (by omega)
  exact key m 0 (by omega) N hN
theorem it_fun {α β : Type} {body : α → PP (α ⊕ β)} {σ : MM} (f : Nat → α) (m : Nat) {r : β} (hs : ∀ k, k < m → body (f k) σ = some (.inl (f (k + 1)), σ)) (he : body (f m) σ = some (.inr r, σ)) {N : Nat} (hN : m < N) : it body N (f 0) σ = some (r, σ) := it_st f (fun _ => σ) m hs he hN
theorem fu_lt {m : Nat} (h : m < 10000) : m < FU := Nat.lt_of_lt_of_le h FU_ge
theorem nle_n {a b : Nat} (h : a < b) (hb : b < 2 ^ 31) : ¬ nI b ≤ nI a := nI_ge h hb
/-! ===== what both sides compute ===== -/
def fr (p : Int32) (on pb : Nat → Int32) (l : Int32) : Nat → Int32
  | 0 => p
  | k + 1 => if on k = l then fr p on pb l k - pb k else fr p on pb l k
/-- the class's street: how many lines, places, cloths -/
def TC (σ : MM) (nl np nc : Nat) : Prop := σ.1 3 9 = nI nl ∧ σ.1 3 10 = nI np ∧ σ.1 3 11 = nI nc ∧ nl ≤ 5 ∧ np ≤ 4 ∧ nc ≤ 6
def TM (σ : MM) (nl np nc : Nat) : Prop := σ.1 255 0 = nI nl ∧ σ.1 255 1 = nI np ∧ σ.1 255 2 = nI nc ∧ nl ≤ 5 ∧ np ≤ 4 ∧ nc ≤ 6
theorem bd_it {α β γ : Type} {body : α → PP (α ⊕ β)} {kk : β → PP γ} {σ : MM} (f : Nat → α) (m : Nat) {r : β} {s0 : α} (h0 : s0 = f 0) (hs : ∀ k, k < m → body (f k) σ = some (.inl (f (k + 1)), σ)) (he : body (f m) σ = some (.inr r, σ)) (hN : m < 10000) : bd (it body FU s0) kk σ = kk r σ := by
  rw [h0]
  exact ev_bd (it_fun f m hs he (fu_lt hN))
theorem bd_its {α β γ : Type} {body : α → PP (α ⊕ β)} {kk : β → PP γ} {σ σ' : MM} (f : Nat → α) (g : Nat → MM) (m : Nat) {r : β} {s0 : α} (h0 : s0 = f 0) (h1 : σ = g 0) (hs : ∀ k, k < m → body (f k) (g k) = some (.inl (f (k + 1)), g (k + 1))) (he : body (f m) (g m) = some (.inr r, σ')) (hN : m < 10000) : bd (it body FU s0) kk σ = kk r σ' := by
  rw [h0, h1]
  exact ev_bd (it_st f g m hs he (fu_lt hN))
theorem le_nn {a : Nat} (h : a < 2 ^ 31) : nI a ≤ nI a := nI_le (Nat.le_refl _) h
theorem c_freeOn {σ : MM} {nl np nc a l : Nat} (hT : TC σ nl np nc) (h : ob a 4) (hl : l < 5) : FX4_freeOn a (nI l) σ = some (fr (σ.1 7 l) (σ.1 (a + 2)) (σ.1 (a + 3)) (nI l) nc, σ) := by
  obtain ⟨-, -, h3, -, -, h6⟩ := hT
  unfold FX4_freeOn
  rw [sk0 h, sk2 h, sk3 h, r3_3, ev_bd (ev_aI hl (by decide))]
  refine (bd_it (fun k => (fr (σ.1 7 l) (σ.1 (a + 2)) (σ.1 (a + 3)) (nI l) k, nI k)) nc rfl ?_ ?_ (by omega)).trans rfl
  · intro k hk
    have e1 := ev_aI (a := a + 2) (σ := σ) (show k < 6 by omega) (by decide)
    have e2 := ev_aI (a := a + 3) (σ := σ) (show k < 6 by omega) (by decide)
    by_cases hq : σ.1 (a + 2) k = nI l <;> simp [bd, gI, h3, nle_n hk (by omega), e1, e2, hq, fr, lt, pu, nI_1]
  · simp [bd, gI, h3, le_nn (show nc < 2 ^ 31 by omega), pu]
theorem m_cloths {σ : MM} {nl np nc : Nat} (hT : TM σ nl np nc) : FX12_cloths 249 σ = some (nI nc, σ) := by
  obtain ⟨-, -, h3, -⟩ := hT
  unfold FX12_cloths
  rw [r249_10, ev_bd (show aI 255 80 (2 : Int32) σ = some (nI nc, σ) by rw [show (2 : Int32) = nI 2 from rfl, ev_aI (by decide) (by decide), h3])]
  rfl
theorem m_lineOf {σ : MM} {l w : Nat} (hl : l < 5) (hw : w < 2) : FX12_lineOf 249 (nI l) (nI w) σ = some (σ.1 255 (4 + 2 * l + w), σ) := by
  unfold FX12_lineOf
  have e : (4 : Int32) + (2 : Int32) * nI l + nI w = nI (4 + 2 * l + w) := by
    rw [show (4 : Int32) = nI 4 from rfl, show (2 : Int32) = nI 2 from rfl, pk_mul, nI_add, nI_add]
  rw [r249_10]
  simp only [e]
  rw [ev_bd (ev_aI (by omega) (by decide))]
  rfl
