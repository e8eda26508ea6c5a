/-! ===== a morning told: the model, and both ===== -/
theorem m_morning {A : AB} {E n : Nat} {P : TO} {σ : MM} (hE : E < 20000) (hVA : VA A) (hv : E = 0 → n = P.1 ∧ VPl A.1 P) (hA : MA A σ) (hM : ∀ (β : Type) (K : Int32 → PP β) (Z : β → MM → Prop), (∀ τ, τ.1 249 8 = nI E → τ.1 249 2 = 0 → (E = 0 → DMp P τ) → (∀ b j, ¬ ((b = 249 ∧ (j = 0 ∨ j = 2 ∨ j = 3 ∨ j = 7 ∨ j = 8)) ∨ b = 251 ∨ b = 252 ∨ (b = 262 ∧ 165 ≤ j)) → τ.1 b j = σ.1 b j) → (∀ b j, b ≠ 253 → τ.2.1 b j = σ.2.1 b j) → wp (K (nI n)) τ Z) → wp (bd (sI 249 0 (0 : Int32)) (fun (_ : Unit) => bd (FX12_cutAll 249) (fun (_ : Unit) => bd (it moM FU (0 : Int32)) K))) σ Z) : wp (FX12_morning 249) σ (fun x τ => x = nI E ∧ MA (if E = 0 then plA A P else taA A (0, A.2.2.2.2.2.1.2)) τ ∧ ofM σ τ) := by
  unfold FX12_morning
  rw [r249_4, r249_20]
  refine hM _ _ _ (fun τ e8 e2 hD f fl => ?_)
  refine ws_gv e8 ?_
  have h1 : MA A (up2 τ.1 249 2 (σ.1 249 2), τ.2) := by
    refine MA_g (σ := σ) hVA (fun b j h1 h2 => ?_) (fun b j h1 => fl b j (by omega)) hA
    by_cases q : b = 249 ∧ j = 2
    · rw [q.1, q.2]; exact mm_at
    · unfold scM at h2
      exact (mm_ne q).trans (f b j (by omega))
  have h2 : MA (taA A (0, A.2.2.2.2.2.1.2)) τ := MA_ta hVA h1 ⟨fun b j n => (mm_ne (by omega)).symm, rfl⟩ ⟨e2, fun i hi => absurd hi (by show ¬ i < 0; omega)⟩
  by_cases z : E = 0
  · rw [if_pos (show nI E ≤ 0 by rw [z]; decide), if_pos z]
    obtain ⟨en, hP⟩ := hv z
    have h40 := hP.1
    refine ws_u (i := 0) (by decide) (by decide) (m_cpP (n := n) (by omega) (fun τ2 g1 g2 => wp_pu ?_))
    have q : eqr (fun b j => b = 262 ∧ j < 165) τ τ2 := eqr_tr (eqr_up (by omega)) (eqr_mono g2 (fun b j z => by omega))
    obtain ⟨k1, k2, k3, k4, k5, k6, k7⟩ := h2
    have v6 := hVA.1.1.2.2.1
    refine ⟨by rw [z]; rfl, ⟨MTn_r q (fun b j _ _ => by omega) k1, ⟨MSk_r q v6 (fun j _ _ => by omega) k2.1, MWa_r q (fun j _ _ => by omega) k2.2.1, MTo_r q hVA.2.1.2.2.1 (fun j _ _ => by omega) k2.2.2⟩, MPa_r v6 q (fun j _ _ => by omega) (by omega) k3, ⟨?_, fun i hi => ?_⟩, MMa_r v6 hVA.2.2.2.2.1 q ⟨fun j => by omega, fun j _ _ => by omega⟩ k5, MTa_r q ⟨by omega, fun j => by omega⟩ k6, MNa_r q ⟨by omega, fun j => by omega⟩ k7⟩, fun b j n => (q.1 b j (by omega)).trans (f b j (by omega)), fun b j n => by rw [q.2]; exact fl b j (by omega)⟩
    · show τ2.1 262 0 = nI P.1
      rw [g2.1 262 0 (by omega), ← en]; exact mm_at
    · have hi : i < P.1 := hi
      obtain ⟨w0, w1, w2, w3⟩ := hD z i hi
      refine ⟨?_, ?_, ?_, ?_⟩
      · rw [g1 (4 * i) (by omega)]; exact (mm_ne (by omega)).trans w0
      · rw [show 2 + 4 * i = 1 + (4 * i + 1) by omega, g1 (4 * i + 1) (by omega), show 165 + (4 * i + 1) = 166 + 4 * i by omega]; exact (mm_ne (by omega)).trans w1
      · rw [show 3 + 4 * i = 1 + (4 * i + 2) by omega, g1 (4 * i + 2) (by omega), show 165 + (4 * i + 2) = 167 + 4 * i by omega]; exact (mm_ne (by omega)).trans w2
      · rw [show 4 + 4 * i = 1 + (4 * i + 3) by omega, g1 (4 * i + 3) (by omega), show 165 + (4 * i + 3) = 168 + 4 * i by omega]; exact (mm_ne (by omega)).trans w3
  · rw [if_neg (nI_nle (by omega) (by omega)), if_neg z]
    exact ws_gv e8 (wp_pu ⟨rfl, h2, fun b j n => f b j (by omega), fun b j n => fl b j (by omega)⟩)
theorem ok_2 {σ : MM} (h : Inv σ) (q : Nat → Int32) : okC (fun chk => TL_2 chk q) σ := by
  obtain ⟨A, hV, hC, hM⟩ := h
  obtain ⟨E, n, P, ⟨p1, p2⟩, pC, pM⟩ := morn_ex (Q := A.2.2.2.2.2.1) (T := A.1) (N := A.2.2.2.2.2.2) hV.2.2.2.2.2.1 hV.1 hV.2.2.2.2.2.2
  have hV2 : VA (if E = 0 then plA A P else taA A (0, A.2.2.2.2.2.1.2)) := by
    by_cases z : E = 0
    · rw [if_pos z]; exact VA_pl hV (p2 z).2
    · rw [if_neg z]; exact VA_ta0 hV
  exact okC_of (eq := fun x y => x = y) rfl hV hV2 hM (c_morning p1 (fun z => (p2 z).2) hC (pC σ hC.2.2.2.2.2.1 ⟨hC.1.1.1, hC.1.1.2.2.1, hC.2.2.2.2.2.2⟩)) (fun τ hMt => m_morning p1 hV p2 hMt (fun β K Z hh => pM τ β K Z hMt.2.2.2.2.2.1 hMt.2.2.2.2.2.2.1 hMt.2.2.2.2.2.2.2 hh))
