/-! ===== a morning told: both ===== -/
def plA (A : AB) (P : TO) : AB := (A.1, A.2.1, A.2.2.1, P, A.2.2.2.2.1, (0, A.2.2.2.2.2.1.2), A.2.2.2.2.2.2)
theorem VA_pl {A : AB} {P : TO} (hV : VA A) (hP : VPl A.1 P) : VA (plA A P) := ⟨hV.1, hV.2.1, hV.2.2.1, hP, hV.2.2.2.2.1, ⟨by show 0 ≤ 1000; decide, fun i hi => absurd hi (by show ¬ i < 0; omega)⟩, hV.2.2.2.2.2.2⟩
theorem c_copyPlan {P : TO} {σ : MM} (h40 : P.1 ≤ 40) (hD : DCp P σ) : wp (FX3_copyFrom 28 33) σ (fun _ τ => CPl P τ ∧ eqr (fun b j => (29 ≤ b ∧ b ≤ 32) ∨ (b = 28 ∧ j = 4)) σ τ) := by
  unfold FX3_copyFrom
  rw [r33_0, r33_1, r33_2, r33_3, r28_0, r28_1, r28_2, r28_3]
  refine ws_cI (ws_cI (ws_cI (ws_cI ?_)))
  have fI : ∀ b j, ¬ (29 ≤ b ∧ b ≤ 32) → cpf (cpf (cpf (cpf σ.1 34 29 40) 35 30 40) 36 31 40) 37 32 40 b j = σ.1 b j := fun b j n => by rw [cpf_ne (by omega), cpf_ne (by omega), cpf_ne (by omega), cpf_ne (by omega)]
  have e29 : ∀ j, j < 40 → cpf (cpf (cpf (cpf σ.1 34 29 40) 35 30 40) 36 31 40) 37 32 40 29 j = σ.1 34 j := fun j h => by rw [cpf_ne (by omega), cpf_ne (by omega), cpf_ne (by omega), cpf_at h]
  have e30 : ∀ j, j < 40 → cpf (cpf (cpf (cpf σ.1 34 29 40) 35 30 40) 36 31 40) 37 32 40 30 j = σ.1 35 j := fun j h => by rw [cpf_ne (by omega), cpf_ne (by omega), cpf_at h, cpf_ne (by omega)]
  have e31 : ∀ j, j < 40 → cpf (cpf (cpf (cpf σ.1 34 29 40) 35 30 40) 36 31 40) 37 32 40 31 j = σ.1 36 j := fun j h => by rw [cpf_ne (by omega), cpf_at h, cpf_ne (by omega), cpf_ne (by omega)]
  have e32 : ∀ j, j < 40 → cpf (cpf (cpf (cpf σ.1 34 29 40) 35 30 40) 36 31 40) 37 32 40 32 j = σ.1 37 j := fun j h => by rw [cpf_at h, cpf_ne (by omega), cpf_ne (by omega), cpf_ne (by omega)]
  revert fI e29 e30 e31 e32
  generalize cpf (cpf (cpf (cpf σ.1 34 29 40) 35 30 40) 36 31 40) 37 32 40 = F
  intro fI e29 e30 e31 e32
  refine ws_gv (x := nI P.1) ((fI 33 4 (by omega)).trans hD.1) (ws_s (wp_pu ⟨⟨mm_at, fun i hi => ?_⟩, fun b j n => (mm_ne (by omega)).trans (fI b j (by omega)), rfl⟩))
  obtain ⟨w1, w2, w3⟩ := hD.2 i hi
  exact ⟨(mm_ne (by omega)).trans ((e29 i (by omega)).trans w1), fun q => (mm_ne (by omega)).trans ((e30 i (by omega)).trans (w2 q)), fun q => ⟨(mm_ne (by omega)).trans ((e31 i (by omega)).trans (w3 q).1), (mm_ne (by omega)).trans ((e32 i (by omega)).trans (w3 q).2)⟩⟩
