/-! ===== a morning told: the class ===== -/
theorem c_morning {A : AB} {E : Nat} {P : TO} {σ : MM} (hE : E < 20000) (hv : E = 0 → VPl A.1 P) (hA : CA A σ) (hC : wp (FX3_readFrom 33 1 3) σ (fun x τ => x = nI E ∧ τ.1 1 1 = 0 ∧ (E = 0 → DCp P τ) ∧ (∀ b j, ¬ (b = 1 ∨ (33 ≤ b ∧ b ≤ 37)) → τ.1 b j = σ.1 b j) ∧ ∀ b j, b ≠ 1 → τ.2.1 b j = σ.2.1 b j)) : wp (FX11_morning 0) σ (fun x τ => x = nI E ∧ CA (if E = 0 then plA A P else taA A (0, A.2.2.2.2.2.1.2)) τ ∧ ofC σ τ) := by
  unfold FX11_morning
  rw [r0_4, r0_0, r0_1, r0_3]
  refine wp_bd hC ?_
  rintro x τ ⟨rfl, e11, hD, f, fl⟩
  have h1 : CA A (up2 τ.1 1 1 (σ.1 1 1), τ.2) := by
    refine CA_g (σ := σ) (fun b j h1 h2 => ?_) (fun b j h1 h2 => fl b j (by omega)) hA
    by_cases q : b = 1 ∧ j = 1
    · rw [q.1, q.2]; exact mm_at
    · unfold scC at h2
      exact (mm_ne q).trans (f b j (by omega))
  have h2 : CA (taA A (0, A.2.2.2.2.2.1.2)) τ := CA_ta h1 ⟨fun b j n => (mm_ne (by omega)).symm, rfl⟩ ⟨e11, fun i hi => absurd hi (by show ¬ i < 0; omega)⟩
  by_cases z : E = 0
  · rw [if_pos (show nI E = 0 by rw [z]; rfl), if_pos z]
    refine bd_asw (wp_bd (c_copyPlan (hv z).1 (hD z)) ?_)
    rintro _ τ2 ⟨a1, a2⟩
    obtain ⟨k1, k2, k3, k4, k5, k6, k7⟩ := h2
    refine wp_eq (show pu () τ2 = some ((), τ2) from rfl) (wp_pu ⟨rfl, ⟨CTn_r a2 (fun b j _ _ => by omega) k1, ⟨CSk_r a2 (fun j => by omega) (by omega) k2.1, CWa_r a2 (fun j => by omega) k2.2.1, CTo_r a2 ⟨by omega, fun j => by omega⟩ k2.2.2⟩, CPa_r a2 (fun b j _ _ => by omega) k3, a1, CMa_r a2 (fun b j _ _ => by omega) k5, CTa_r a2 ⟨by omega, fun j => by omega⟩ k6, CNa_r a2 k7⟩, fun b j n => (a2.1 b j (by omega)).trans (f b j (by omega)), fun b j n => by rw [a2.2]; exact fl b j (by omega)⟩)
  · rw [if_neg (nI_ne0 (by omega) (by omega)), if_neg z]
    exact wp_eq (show pu () τ = some ((), τ) from rfl) (wp_pu ⟨rfl, h2, fun b j n => f b j (by omega), fun b j n => fl b j (by omega)⟩)
