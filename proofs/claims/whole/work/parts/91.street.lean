/-! ===== a street told: the class ===== -/
theorem cpf_at {α : Type} {f : Nat → Nat → α} {a b n j : Nat} (h : j < n) : cpf f a b n b j = f a j := by simp [cpf, h]
theorem cpf_ne {α : Type} {f : Nat → Nat → α} {a b n x j : Nat} (h : x ≠ b) : cpf f a b n x j = f x j := by simp [cpf, h]
theorem ws_cI {β : Type} {a b n : Nat} {k : Unit → PP β} {σ : MM} {P : β → MM → Prop} (h : wp (k ()) (cpf σ.1 a b n, σ.2) P) : wp (bd (cpI a b n) k) σ P := wp_eq (show cpI a b n σ = some ((), (cpf σ.1 a b n, σ.2)) from rfl) h
theorem ws_cL {β : Type} {a b n : Nat} {k : Unit → PP β} {σ : MM} {P : β → MM → Prop} (h : wp (k ()) (σ.1, cpf σ.2.1 a b n, σ.2.2) P) : wp (bd (cpL a b n) k) σ P := wp_eq (show cpL a b n σ = some ((), (σ.1, cpf σ.2.1 a b n, σ.2.2)) from rfl) h
def RcT (b j : Nat) : Prop := (b = 3 ∧ (j = 9 ∨ j = 10 ∨ j = 11)) ∨ (7 ≤ b ∧ b ≤ 11) ∨ (b = 12 ∧ j = 2) ∨ b = 13
theorem c_copyTown {T : TW} {N : NM} {b : Bool} {σ : MM} (hV : VTn T) (hD : DC T N b σ) : wp (FX7_copyFrom 3 16) σ (fun _ τ => CTn T τ ∧ CNa T N τ ∧ (∀ b j, ¬ RcT b j → τ.1 b j = σ.1 b j) ∧ ∀ b j, ¬ (4 ≤ b ∧ b ≤ 6) → τ.2.1 b j = σ.2.1 b j) := by
  obtain ⟨⟨v1, v2, v3, v4⟩, -, -, -⟩ := hV
  obtain ⟨⟨a1, a2, a3⟩, a4, a5, a6, ⟨a7, a8⟩, a9, a10⟩ := hD
  unfold FX7_copyFrom FX0_copyFrom
  rw [r16_0, r16_1, r16_2, r16_3, r16_4, r16_5, r16_6, r16_7, r16_8, r3_0, r3_1, r3_2, r3_3, r3_4, r3_5, r3_6, r3_7, r3_8, r25_0, r12_0]
  refine ws_cL (ws_cL (ws_cL (ws_cI (ws_cI (ws_cI (ws_cI (ws_cI (bd_asw (ws_cI ?_)))))))))
  have fI : ∀ b j, ¬ ((7 ≤ b ∧ b ≤ 11) ∨ b = 13) → cpf (cpf (cpf (cpf (cpf (cpf σ.1 20 7 5) 21 8 5) 22 9 4) 23 10 6) 24 11 6) 26 13 1000 b j = σ.1 b j := fun b j n => by
    rw [cpf_ne (by omega), cpf_ne (by omega), cpf_ne (by omega), cpf_ne (by omega), cpf_ne (by omega), cpf_ne (by omega)]
  have e7 : ∀ j, j < 5 → cpf (cpf (cpf (cpf (cpf (cpf σ.1 20 7 5) 21 8 5) 22 9 4) 23 10 6) 24 11 6) 26 13 1000 7 j = σ.1 20 j := fun j h => by
    rw [cpf_ne (by omega), cpf_ne (by omega), cpf_ne (by omega), cpf_ne (by omega), cpf_ne (by omega), cpf_at h]
  have e8 : ∀ j, j < 5 → cpf (cpf (cpf (cpf (cpf (cpf σ.1 20 7 5) 21 8 5) 22 9 4) 23 10 6) 24 11 6) 26 13 1000 8 j = σ.1 21 j := fun j h => by
    rw [cpf_ne (by omega), cpf_ne (by omega), cpf_ne (by omega), cpf_ne (by omega), cpf_at h, cpf_ne (by omega)]
  have e9 : ∀ j, j < 4 → cpf (cpf (cpf (cpf (cpf (cpf σ.1 20 7 5) 21 8 5) 22 9 4) 23 10 6) 24 11 6) 26 13 1000 9 j = σ.1 22 j := fun j h => by
    rw [cpf_ne (by omega), cpf_ne (by omega), cpf_ne (by omega), cpf_at h, cpf_ne (by omega), cpf_ne (by omega)]
  have e10 : ∀ j, j < 6 → cpf (cpf (cpf (cpf (cpf (cpf σ.1 20 7 5) 21 8 5) 22 9 4) 23 10 6) 24 11 6) 26 13 1000 10 j = σ.1 23 j := fun j h => by
    rw [cpf_ne (by omega), cpf_ne (by omega), cpf_at h, cpf_ne (by omega), cpf_ne (by omega), cpf_ne (by omega)]
  have e11 : ∀ j, j < 6 → cpf (cpf (cpf (cpf (cpf (cpf σ.1 20 7 5) 21 8 5) 22 9 4) 23 10 6) 24 11 6) 26 13 1000 11 j = σ.1 24 j := fun j h => by
    rw [cpf_ne (by omega), cpf_at h, cpf_ne (by omega), cpf_ne (by omega), cpf_ne (by omega), cpf_ne (by omega)]
  have e13 : ∀ j, j < 1000 → cpf (cpf (cpf (cpf (cpf (cpf σ.1 20 7 5) 21 8 5) 22 9 4) 23 10 6) 24 11 6) 26 13 1000 13 j = σ.1 26 j := fun j h => by
    rw [cpf_at h, cpf_ne (by omega), cpf_ne (by omega), cpf_ne (by omega), cpf_ne (by omega), cpf_ne (by omega)]
  have hl : ∀ r, r < 3 → ∀ i, i < T.1 r → cpf (cpf (cpf σ.2.1 17 4 5) 18 5 4) 19 6 6 (4 + r) i = p32 (N r i) := by
    intro r hr i hi
    have : r = 0 ∨ r = 1 ∨ r = 2 := by omega
    rcases this with rfl | rfl | rfl
    · rw [cpf_ne (by omega), cpf_ne (by omega), cpf_at (by omega)]; exact a10 0 (by decide) i hi
    · rw [cpf_ne (by omega), cpf_at (by omega), cpf_ne (by omega)]; exact a10 1 (by decide) i hi
    · rw [cpf_at (by omega), cpf_ne (by omega), cpf_ne (by omega)]; exact a10 2 (by decide) i hi
  have fL : ∀ b j, ¬ (4 ≤ b ∧ b ≤ 6) → cpf (cpf (cpf σ.2.1 17 4 5) 18 5 4) 19 6 6 b j = σ.2.1 b j := fun b j n => by
    rw [cpf_ne (by omega), cpf_ne (by omega), cpf_ne (by omega)]
  revert fI e7 e8 e9 e10 e11 e13 hl fL
  generalize cpf (cpf (cpf (cpf (cpf (cpf σ.1 20 7 5) 21 8 5) 22 9 4) 23 10 6) 24 11 6) 26 13 1000 = F
  generalize cpf (cpf (cpf σ.2.1 17 4 5) 18 5 4) 19 6 6 = G
  intro fI e7 e8 e9 e10 e11 e13 hl fL
  refine bd_asw (ws_gv (x := nI (T.1 3)) ((fI 25 2 (by omega)).trans a7) (bd_asw (ws_s ?_)))
  refine wp_eq (show pu () _ = some ((), _) from rfl) (ws_gv (x := nI (T.1 0)) ((mm_ne (by omega)).trans ((fI 16 9 (by omega)).trans a1)) (ws_s (ws_gv (x := nI (T.1 1)) ((mm_ne (by omega)).trans ((mm_ne (by omega)).trans ((fI 16 10 (by omega)).trans a2))) (ws_s (ws_gv (x := nI (T.1 2)) ((mm_ne (by omega)).trans ((mm_ne (by omega)).trans ((mm_ne (by omega)).trans ((fI 16 11 (by omega)).trans a3)))) (ws_s (wp_pu ?_)))))))
  have fU : ∀ b j, ¬ (b = 3 ∧ (j = 9 ∨ j = 10 ∨ j = 11)) → ¬ (b = 12 ∧ j = 2) → up2 (up2 (up2 (up2 F 12 2 (nI (T.1 3))) 3 9 (nI (T.1 0))) 3 10 (nI (T.1 1))) 3 11 (nI (T.1 2)) b j = F b j := fun b j n1 n2 => by
    rw [up2_ne (by omega), up2_ne (by omega), up2_ne (by omega), up2_ne (by omega)]
  refine ⟨⟨⟨?_, ?_, ?_, v1, v2, v3⟩, fun l hl => ⟨?_, ?_⟩, fun p hp => ?_, fun c hc => ⟨?_, ?_⟩, ?_, fun k hk => ?_⟩, fun r hr i hi => hl r hr i hi, fun b j n => ?_, fun b j n => fL b j n⟩
  · exact (mm_ne (by omega)).trans ((mm_ne (by omega)).trans mm_at)
  · exact (mm_ne (by omega)).trans mm_at
  · exact mm_at
  · exact (fU 7 l (by omega) (by omega)).trans ((e7 l (by omega)).trans (a4 l hl).1)
  · exact (fU 8 l (by omega) (by omega)).trans ((e8 l (by omega)).trans (a4 l hl).2)
  · exact (fU 9 p (by omega) (by omega)).trans ((e9 p (by omega)).trans (a5 p hp))
  · exact (fU 10 c (by omega) (by omega)).trans ((e10 c (by omega)).trans (a6 c hc).1)
  · exact (fU 11 c (by omega) (by omega)).trans ((e11 c (by omega)).trans (a6 c hc).2)
  · exact Or.inr ((mm_ne (by omega)).trans ((mm_ne (by omega)).trans ((mm_ne (by omega)).trans mm_at)))
  · exact Or.inr ((fU 13 k (by omega) (by omega)).trans ((e13 k (by omega)).trans (a8 k hk)))
  · unfold RcT at n
    exact (fU b j (by omega) (by omega)).trans (fI b j (by omega))
theorem mk_144 : ∀ m, m < 4 → rf 144 m = 145 + 17 * m := fun m hm => (mk_rf m hm).1
def RsA (b j : Nat) : Prop := (38 ≤ b ∧ b ≤ 41) ∨ (b = 28 ∧ j = 4) ∨ b = 131 ∨ (b = 134 ∧ j = 3) ∨ (b = 48 ∧ j = 1) ∨ ∃ m, m < 4 ∧ b = 145 + 17 * m ∧ j = 3
theorem c_startAnew {T : TW} {σ : MM} (hT : CTn T σ) : wp (FX11_startAnew 0) σ (fun _ τ => CSk T 38 (beS T) τ ∧ τ.1 28 4 = 0 ∧ (∀ p, p < 4 → τ.1 131 p = -2) ∧ τ.1 134 3 = 0 ∧ τ.1 48 1 = 0 ∧ (∀ m, m < 4 → τ.1 (145 + 17 * m) 3 = 0) ∧ eqr RsA σ τ) := by
  unfold FX11_startAnew FX9_forget
  rw [r0_5, r0_3, r0_8, r0_9, r0_7, r0_10, r130_0]
  refine wp_bd (ks_begin hT o38) ?_
  rintro _ τ1 ⟨h1, q1⟩
  refine ws_s ?_
  have q2 : eqr (fun b j => b = 28 ∧ j = 4) τ1 (up2 τ1.1 28 4 0, τ1.2) := eqr_up (by omega)
  have e2 : ((up2 τ1.1 28 4 0, τ1.2) : MM).1 28 4 = 0 := mm_at
  revert q2 e2
  generalize ((up2 τ1.1 28 4 0, τ1.2) : MM) = τ2
  intro q2 e2
  refine bd_asw ?_
  refine ws_it (fun k s τ => s = nI k ∧ (∀ p, p < k → τ.1 131 p = -2) ∧ eqr (fun b _ => b = 131) τ2 τ) 4 (by decide) ⟨rfl, fun p hp => by omega, eqr_rf⟩ ?_
  rintro k s τ hk ⟨rfl, g1, g2⟩
  by_cases z : k < 4
  · rw [if_neg (show ¬ (4 : Int32) ≤ nI k from nle_n (b := 4) z (by decide))]
    refine ws_u z (by decide) ?_
    rw [lt_eq, nI_1]
    refine wp_pu (Or.inl ⟨_, rfl, z, rfl, fun p hp => ?_, eqr_tr g2 (eqr_up rfl)⟩)
    by_cases e : p = k
    · subst e; exact mm_at
    · exact (mm_ne (by omega)).trans (g1 p (by omega))
  · have : k = 4 := by omega
    subst this
    rw [if_pos (show (4 : Int32) ≤ nI 4 by decide)]
    refine wp_pu (Or.inr ⟨(), rfl, wp_eq (show pu () τ = some ((), τ) from rfl) (ws_s (ws_s ?_))⟩)
    have q4 : eqr (fun b j => (b = 134 ∧ j = 3) ∨ (b = 48 ∧ j = 1)) τ (up2 (up2 τ.1 134 3 0) 48 1 0, τ.2) := eqr_tr (eqr_up (by omega)) (eqr_up (σ := (up2 τ.1 134 3 0, τ.2)) (by omega))
    have e4 : ((up2 (up2 τ.1 134 3 0) 48 1 0, τ.2) : MM).1 134 3 = 0 ∧ ((up2 (up2 τ.1 134 3 0) 48 1 0, τ.2) : MM).1 48 1 = 0 := ⟨(mm_ne (by omega)).trans up2_at, mm_at⟩
    revert q4 e4
    generalize ((up2 (up2 τ.1 134 3 0) 48 1 0, τ.2) : MM) = τ4
    intro q4 e4
    refine ws_it (fun k s τ => s = nI k ∧ (∀ p, p < k → τ.1 (145 + 17 * p) 3 = 0) ∧ eqr (fun b j => ∃ m, m < 4 ∧ b = 145 + 17 * m ∧ j = 3) τ4 τ) 4 (by decide) ⟨rfl, fun p hp => by omega, eqr_rf⟩ ?_
    rintro k s τ5 hk ⟨rfl, g5, g6⟩
    by_cases z : k < 4
    · rw [if_neg (show ¬ (4 : Int32) ≤ nI k from nle_n (b := 4) z (by decide))]
      refine wp_eq (show gd (ib (nI k) 4 = true) τ5 = some ((), τ5) by unfold gd; rw [if_pos (ib_n z (by decide))]) ?_
      rw [cl_n (by omega), mk_144 k z]
      refine ws_s ?_
      rw [lt_eq, nI_1]
      refine wp_pu (Or.inl ⟨_, rfl, z, rfl, fun p hp => ?_, eqr_tr g6 (eqr_up ⟨k, z, rfl, rfl⟩)⟩)
      by_cases e : p = k
      · subst e; exact mm_at
      · exact (mm_ne (by omega)).trans (g5 p (by omega))
    · have : k = 4 := by omega
      subst this
      rw [if_pos (show (4 : Int32) ≤ nI 4 by decide)]
      have n5 : ∀ b j, ¬ (145 ≤ b ∧ b ≤ 196) → ¬ ∃ m, m < 4 ∧ b = 145 + 17 * m ∧ j = 3 := fun b j n ⟨m, h1, h2, h3⟩ => n (by omega)
      refine wp_pu (Or.inr ⟨(), rfl, wp_pu ⟨?_, ?_, fun p hp => ?_, ?_, ?_, g5, ?_⟩⟩)
      · have qa : eqr (fun b j => b = 28 ∨ b = 131 ∨ b = 134 ∨ b = 48 ∨ (145 ≤ b ∧ b ≤ 196)) τ1 τ5 := eqr_tr (eqr_mono q2 (fun b j z => by omega)) (eqr_tr (eqr_mono g2 (fun b j z => by omega)) (eqr_tr (eqr_mono q4 (fun b j z => by omega)) (eqr_mono g6 (fun b j ⟨m, h1, h2, h3⟩ => by omega))))
        exact CSk_r qa (fun j => by omega) (by omega) h1
      · rw [g6.1 _ _ (n5 _ _ (by omega)), q4.1 _ _ (by omega), g2.1 _ _ (by omega)]; exact e2
      · rw [g6.1 _ _ (n5 _ _ (by omega)), q4.1 _ _ (by omega)]; exact g1 p hp
      · rw [g6.1 _ _ (n5 _ _ (by omega))]; exact e4.1
      · rw [g6.1 _ _ (n5 _ _ (by omega))]; exact e4.2
      · refine eqr_tr (eqr_mono q1 (fun b j z => ?_)) (eqr_tr (eqr_mono q2 (fun b j z => ?_)) (eqr_tr (eqr_mono g2 (fun b j z => ?_)) (eqr_tr (eqr_mono q4 (fun b j z => ?_)) (eqr_mono g6 (fun b j z => ?_)))))
        · exact Or.inl (by omega)
        · exact Or.inr (Or.inl z)
        · exact Or.inr (Or.inr (Or.inl z))
        · rcases z with z | z
          · exact Or.inr (Or.inr (Or.inr (Or.inl z)))
          · exact Or.inr (Or.inr (Or.inr (Or.inr (Or.inl z))))
        · exact Or.inr (Or.inr (Or.inr (Or.inr (Or.inr z))))
