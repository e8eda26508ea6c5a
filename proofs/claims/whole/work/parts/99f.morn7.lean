/-! ===== a morning told: the model's rows copied down ===== -/
theorem m_cpP {n : Nat} {β : Type} {K : PP β} {Z : β → MM → Prop} {σ : MM} (hn : n ≤ 40) (h : ∀ τ, (∀ j, j < 4 * n → τ.1 262 (1 + j) = σ.1 262 (165 + j)) → eqr (fun b j => b = 262 ∧ 1 ≤ j ∧ j < 165) σ τ → wp K τ Z) : wp (bd (it (fun (s22 : Int32) => (if ((4 : Int32) * nI n) ≤ s22 then pu (Sum.inr ()) else bd (aI 262 330 ((165 : Int32) + s22)) (fun x23 => bd (uI 262 330 ((1 : Int32) + s22) x23) (fun (_ : Unit) => lt (s22 + (1 : Int32)) (fun y24 => pu (Sum.inl y24)))) : PP ((Int32) ⊕ (Unit)))) FU (0 : Int32)) (fun (v25 : Unit) => K)) σ Z := by
  have e4 : (4 : Int32) * nI n = nI (4 * n) := by rw [show (4 : Int32) = nI 4 from rfl, pk_mul]
  rw [e4]
  refine ws_it (fun k s τ => s = nI k ∧ (∀ j, j < k → τ.1 262 (1 + j) = σ.1 262 (165 + j)) ∧ eqr (fun b j => b = 262 ∧ 1 ≤ j ∧ j < 165) σ τ) (4 * n) (by omega) ⟨rfl, fun j hj => by omega, eqr_rf⟩ ?_
  rintro k s τ hk ⟨rfl, h1, h2⟩
  by_cases z : k < 4 * n
  · rw [if_neg (nle_n z (by omega)), show (165 : Int32) + nI k = nI (165 + k) from nI_add 165 k, show (1 : Int32) + nI k = nI (1 + k) from nI_add 1 k]
    refine ws_a (i := 165 + k) (by omega) (by decide) (x := σ.1 262 (165 + k)) (h2.1 _ _ (by omega)) (ws_u (by omega) (by decide) ?_)
    rw [lt_eq, nI_1]
    refine wp_pu (Or.inl ⟨_, rfl, z, rfl, fun j hj => ?_, eqr_tr h2 (eqr_up (by omega))⟩)
    by_cases e : j = k
    · subst e; exact mm_at
    · exact (mm_ne (by omega)).trans (h1 j (by omega))
  · have : k = 4 * n := by omega
    subst this
    rw [if_pos (le_nn (by omega))]
    exact wp_pu (Or.inr ⟨(), rfl, h τ h1 h2⟩)
