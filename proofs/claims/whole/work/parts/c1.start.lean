/-! ===== the memory at the start ===== -/
def σ00 : MM := (fun _ _ => 0, fun _ _ => 0, none)
theorem fr00 {n : Nat} : Fr n σ00 τ0 := ⟨fun b j _ => ⟨rfl, rfl, rfl⟩, rfl⟩
theorem sX11_1 (b j : Nat) : (sX11 σ00).1 b j = if b = 131 ∧ j < 4 then -2 else 0 := by
  show up2 (up2 (up2 (up2 (fun _ _ => 0) 131 0 (-2)) 131 1 (-2)) 131 2 (-2)) 131 3 (-2) b j = _
  unfold up2
  by_cases h : b = 131
  · subst h
    by_cases h4 : j < 4
    · rcases (show j = 0 ∨ j = 1 ∨ j = 2 ∨ j = 3 by omega) with rfl | rfl | rfl | rfl <;> simp
    · rw [if_neg (by omega), if_neg (by omega), if_neg (by omega), if_neg (by omega), if_neg (by omega)]
  · simp [h]
theorem sX12_1 (σ : MM) : (sX12 σ).1 = σ.1 ∧ (sX12 σ).2.2 = σ.2.2 := ⟨rfl, rfl⟩
theorem sX12_l (σ : MM) (b j : Nat) (h : b ≠ 254) : (sX12 σ).2.1 b j = σ.2.1 b j := by
  unfold sX12 uL0 up2
  simp [h]
set_option maxRecDepth 100000 in
theorem sX12_w (σ : MM) : ∀ i, i < 23 → (sX12 σ).2.1 254 i = wtb.getD i 0 := by
  intro i hi
  rcases (show i = 0 ∨ i = 1 ∨ i = 2 ∨ i = 3 ∨ i = 4 ∨ i = 5 ∨ i = 6 ∨ i = 7 ∨ i = 8 ∨ i = 9 ∨ i = 10 ∨ i = 11 ∨ i = 12 ∨ i = 13 ∨ i = 14 ∨ i = 15 ∨ i = 16 ∨ i = 17 ∨ i = 18 ∨ i = 19 ∨ i = 20 ∨ i = 21 ∨ i = 22 by omega) with rfl | rfl | rfl | rfl | rfl | rfl | rfl | rfl | rfl | rfl | rfl | rfl | rfl | rfl | rfl | rfl | rfl | rfl | rfl | rfl | rfl | rfl | rfl <;> rfl
theorem T00_0 {r : Nat} (h : r < 3) : T00.1 r = 0 := by
  show (if r = 3 then 3 else 0) = 0
  rw [if_neg (by omega)]
def A00 : AB := (T00, (beS T00, (fun _ => -2), (0, fun _ _ => 0)), (0, fun _ => beS T00), (0, fun _ _ => 0), ((fun _ => false), fun _ => (beS T00, (fun _ => -2), (0, fun _ _ => 0))), (0, fun _ => 0), fun _ _ => [])
theorem VA_00 : VA A00 := by
  refine ⟨DV_0.1, ⟨VSk_be DV_0.1, fun p hp => ⟨Or.inl rfl, fun _ => rfl⟩, by decide, fun i hi => absurd hi (by show ¬ i < 0; omega)⟩, fun i hi => absurd hi (by show ¬ i < 0; omega), ⟨by decide, fun i hi => absurd hi (by show ¬ i < 0; omega)⟩, fun m hm h => absurd h (by show ¬ false = true; decide), ⟨by decide, fun i hi => absurd hi (by show ¬ i < 0; omega)⟩, DV_0.2.1⟩
theorem st_ex : ∃ σ1 σ2, FX12_standsAsAlways 249 (0 : Int32) (sX12 (sX11 σ00)) = some ((), σ1) ∧ FX12_begins 249 σ1 = some ((), σ2) ∧ Inv σ2 ∧ Fr 270 σ2 tX12 := by
  obtain ⟨_, σ1, e1, a1, a2, a3⟩ := m_stands (σ := sX12 (sX11 σ00)) (p := 0) (by decide)
  rw [nI_0] at e1
  have z0 : ∀ j, j < 40 → ¬ j = 3 → σ1.1 255 j = 0 := fun j h1 h2 => a1 j (by omega) (by omega) (by omega)
  have hT1 : MTn T00 σ1 := by
    refine ⟨⟨(z0 0 (by decide) (by decide)).trans nI_0.symm, (z0 1 (by decide) (by decide)).trans nI_0.symm, (z0 2 (by decide) (by decide)).trans nI_0.symm, by decide, by decide, by decide⟩, fun l hl => absurd hl (by show ¬ l < 0; omega), fun p hp => absurd hp (by show ¬ p < 0; omega), fun c hc => absurd hc (by show ¬ c < 0; omega), Or.inl ⟨a2, rfl, rfl, rfl, rfl⟩⟩
  obtain ⟨_, σ2, e2, b1, b2, b3, b4, b5, b6, b7⟩ := m_begins DV_0.1 hT1
  refine ⟨σ1, σ2, e1, e2, ?_, ?_⟩
  · have lo : ∀ b j, ¬ (b = 255 ∧ j < 40) → ¬ Rbe b j → σ2.1 b j = (sX11 σ00).1 b j := fun b j n1 n2 => by
      rw [b7.1 b j n2, a3.1 b j (by omega)]
      rfl
    have lz : ∀ b j, ¬ (b = 255 ∧ j < 40) → ¬ Rbe b j → b ≠ 131 → σ2.1 b j = 0 := fun b j n1 n2 n3 => by
      rw [lo b j n1 n2, sX11_1, if_neg (by omega)]
    have nR : ∀ b j, ¬ ((b = 265 ∧ j < 24) ∨ (b = 262 ∧ j = 0) ∨ (b = 249 ∧ j = 24) ∨ (b = 266 ∧ j < 4)) → ¬ Rbe b j := fun b j n q => n (by unfold Rbe at q; exact q)
    have zz : ∀ b j, b < 249 → b ≠ 131 → σ2.1 b j = 0 := fun b j h1 h2 => lz b j (by omega) (nR b j (by omega)) h2
    have ll : ∀ b j, σ2.2.1 b j = (sX12 (sX11 σ00)).2.1 b j := fun b j => by rw [b7.2, a3.2]
    refine ⟨A00, VA_00, ?_, ?_⟩
    · refine ⟨⟨⟨(zz _ _ (by decide) (by decide)).trans nI_0.symm, (zz _ _ (by decide) (by decide)).trans nI_0.symm, (zz _ _ (by decide) (by decide)).trans nI_0.symm, by decide, by decide, by decide⟩, fun l hl => absurd hl (by show ¬ l < 0; omega), fun p hp => absurd hp (by show ¬ p < 0; omega), fun c hc => absurd hc (by show ¬ c < 0; omega), Or.inl rfl, fun k hk => Or.inl rfl⟩, ⟨⟨zz _ _ (by decide) (by decide), fun c hc => absurd hc (by show ¬ c < 0; omega)⟩, fun p hp => ?_, (zz _ _ (by decide) (by decide)).trans nI_0.symm, fun i hi => absurd hi (by show ¬ i < 0; omega)⟩, ⟨0, by decide, by decide, (zz _ _ (by decide) (by decide)).trans nI_0.symm, (zz _ _ (by decide) (by decide)).trans nI_0.symm, fun i hi => absurd hi (by show ¬ i < 0; omega)⟩, ⟨(zz _ _ (by decide) (by decide)).trans nI_0.symm, fun i hi => absurd hi (by show ¬ i < 0; omega)⟩, fun m hm => ⟨zz _ _ (by omega) (by omega), fun h => absurd h (by show ¬ false = true; decide)⟩, ⟨(zz _ _ (by decide) (by decide)).trans nI_0.symm, fun i hi => absurd hi (by show ¬ i < 0; omega)⟩, fun r hr i hi => ?_⟩
      · rw [lo 131 p (by omega) (nR _ _ (by omega)), sX11_1, if_pos ⟨rfl, hp⟩]
        rfl
      · have := T00_0 hr
        have h2 : i < T00.1 r := hi
        omega
    · have hT2 : MTn T00 σ2 := MTn_r b7 (fun b j h1 h2 q => by unfold Rbe at q; omega) hT1
      refine ⟨hT2, ⟨b1, fun p hp => ?_, ?_, fun i hi => absurd hi (by show ¬ i < 0; omega)⟩, ⟨by decide, b5.trans nI_0.symm, fun i hi => absurd hi (by show ¬ i < 0; omega)⟩, ⟨b4.trans nI_0.symm, fun i hi => absurd hi (by show ¬ i < 0; omega)⟩, fun m hm => ⟨(b6 m hm).trans rfl, fun h => absurd h (by show ¬ false = true; decide)⟩, ⟨(lz _ _ (by omega) (nR _ _ (by omega)) (by decide)).trans nI_0.symm, fun i hi => absurd hi (by show ¬ i < 0; omega)⟩, ⟨fun i hi => ?_, (lz _ _ (by omega) (nR _ _ (by omega)) (by decide)).trans nI_0.symm, fun _ => (0, 0), fun k hk => absurd hk (by show ¬ k < 0; omega), fun r hr i hi => ?_⟩⟩
      · rw [Nat.zero_add]; exact b2 p hp
      · exact b3.trans nI_0.symm
      · rw [ll]; exact sX12_w _ i hi
      · have := T00_0 hr
        have h2 : i < T00.1 r := hi
        omega
  · have f1 : Fr 249 (sX11 σ00) (tX11 τ0) := frX11 fr00
    have f2 : Fr 270 (sX12 (sX11 σ00)) tX12 := frX12 (f1.mono (by decide))
    refine ⟨fun b j hb => ⟨(f2.1 b j hb).1, ?_, ?_⟩, ?_⟩
    · rw [b7.1 b j (fun q => by unfold Rbe at q; omega), a3.1 b j (by omega)]
      exact (f2.1 b j hb).2.1
    · rw [b7.2, a3.2]
      exact (f2.1 b j hb).2.2
    · rw [b7.2, a3.2]
      exact f2.2
