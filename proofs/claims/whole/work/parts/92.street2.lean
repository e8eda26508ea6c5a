/-! ===== a street told: both ===== -/
def nwT (T : TW) (N : NM) (q : Nat → Int32) : AB := (T, (beS T, (fun _ => -2), (0, fun _ _ => 0)), (0, fun _ => beS T), (0, fun _ _ => 0), ((fun _ => false), fun _ => (beS T, (fun _ => -2), (0, fun _ _ => 0))), (0, q), N)
theorem VA_nwT {T : TW} {N : NM} {b : Bool} {q : Nat → Int32} (hV : DV T N b) : VA (nwT T N q) := by
  refine ⟨hV.1, ⟨VSk_be hV.1, fun p hp => ⟨Or.inl rfl, fun _ => rfl⟩, by show 0 ≤ 6; decide, fun i hi => absurd hi (by show ¬ i < 0; omega)⟩, fun i hi => absurd hi (by show ¬ i < 0; omega), ⟨by show 0 ≤ 40; decide, fun i hi => absurd hi (by show ¬ i < 0; omega)⟩, fun m hm h => absurd h (by show ¬ false = true; decide), ⟨by show 0 ≤ 1000; decide, fun i hi => absurd hi (by show ¬ i < 0; omega)⟩, hV.2.1⟩
theorem VA_ta0 {A : AB} {q : Nat → Int32} (hV : VA A) : VA (taA A (0, q)) := ⟨hV.1, hV.2.1, hV.2.2.1, hV.2.2.2.1, hV.2.2.2.2.1, ⟨by show 0 ≤ 1000; decide, fun i hi => absurd hi (by show ¬ i < 0; omega)⟩, hV.2.2.2.2.2.2⟩
theorem c_street {A : AB} {E : Nat} {T : TW} {N : NM} {b : Bool} {σ : MM} (hE : E < 20000) (hv : E = 0 → DV T N b) (hA : CA A σ) (hC : wp (FX8_readTown 15) σ (fun x τ => x = nI E ∧ τ.1 1 1 = 0 ∧ (E = 0 → DC T N b τ) ∧ FGc σ τ)) : wp (FX11_street 0) σ (fun x τ => x = nI E ∧ CA (if E = 0 then nwT T N A.2.2.2.2.2.1.2 else taA A (0, A.2.2.2.2.2.1.2)) τ ∧ ofC σ τ) := by
  unfold FX11_street
  rw [r0_2, r0_1, r15_1]
  refine wp_bd hC ?_
  rintro x τ ⟨rfl, e11, hD, f⟩
  by_cases z : E = 0
  · rw [if_pos (show nI E = 0 by rw [z]; rfl), if_pos z]
    refine bd_asw (wp_bd (c_copyTown (hv z).1 (hD z)) ?_)
    rintro _ τ2 ⟨a1, a2, a3, a4⟩
    refine bd_asw (wp_bd (c_startAnew a1) ?_)
    rintro _ τ3 ⟨b1, b2, b3, b4, b5, b6, b7⟩
    have nA : ∀ b j, ¬ ((38 ≤ b ∧ b ≤ 41) ∨ (b = 28 ∧ j = 4) ∨ b = 131 ∨ (b = 134 ∧ j = 3) ∨ (b = 48 ∧ j = 1) ∨ (145 ≤ b ∧ b ≤ 196)) → ¬ RsA b j := by
      intro b j n q
      unfold RsA at q
      rcases q with q | q | q | q | q | ⟨m, h1, h2, h3⟩
      · exact n (by omega)
      · exact n (by omega)
      · exact n (by omega)
      · exact n (by omega)
      · exact n (by omega)
      · exact n (by omega)
    have nT' : ∀ b j, ¬ ((b = 3 ∧ (j = 9 ∨ j = 10 ∨ j = 11)) ∨ (7 ≤ b ∧ b ≤ 11) ∨ (b = 12 ∧ j = 2) ∨ b = 13) → ¬ RcT b j := fun b j n q => n (by unfold RcT at q; exact q)
    refine wp_eq (show pu () τ3 = some ((), τ3) from rfl) (wp_pu ⟨rfl, ⟨?_, ⟨b1, b3, b4, fun i hi => absurd hi (by show ¬ i < 0; omega)⟩, ?_, ⟨b2, fun i hi => absurd hi (by show ¬ i < 0; omega)⟩, fun m hm => ⟨b6 m hm, fun q => absurd q (by show ¬ false = true; decide)⟩, ⟨?_, fun i hi => absurd hi (by show ¬ i < 0; omega)⟩, fun r hr i hi => ?_⟩, fun b j n => ?_, fun b j n => ?_⟩)
    · exact CTn_r b7 (fun b j h1 h2 => nA b j (by omega)) a1
    · obtain ⟨nx, k1, k2, k3, k4, k5⟩ := hA.2.2.1
      refine ⟨nx, k1, by show 0 ≤ 16; decide, b5, ?_, fun i hi => absurd hi (by show ¬ i < 0; omega)⟩
      rw [b7.1 48 2 (nA _ _ (by omega)), a3 48 2 (nT' _ _ (by omega)), f.1 48 2 (by omega)]
      exact k4
    · rw [b7.1 1 1 (nA _ _ (by omega)), a3 1 1 (nT' _ _ (by omega))]; exact e11
    · rw [b7.2]; exact a2 r hr i hi
    · rw [b7.1 b j (nA _ _ (by omega)), a3 b j (nT' _ _ (by omega)), f.1 b j (by omega)]
    · rw [b7.2, a4 b j (by omega), f.2 b j (by omega) (by omega)]
  · rw [if_neg (nI_ne0 (by omega) (by omega)), if_neg z]
    refine wp_eq (show pu () τ = some ((), τ) from rfl) (wp_pu ⟨rfl, ?_, fun b j n => f.1 b j (by omega), fun b j n => f.2 b j (by omega) (by omega)⟩)
    have h1 : CA A (up2 τ.1 1 1 (σ.1 1 1), τ.2) := by
      refine CA_g (σ := σ) (fun b j h1 h2 => ?_) (fun b j h1 h2 => f.2 b j (by omega) (by omega)) hA
      by_cases q : b = 1 ∧ j = 1
      · rw [q.1, q.2]; exact mm_at
      · unfold scC at h2
        exact (mm_ne q).trans (f.1 b j (by omega))
    refine CA_ta h1 ⟨fun b j n => (mm_ne (by omega)).symm, rfl⟩ ⟨e11, fun i hi => absurd hi (by show ¬ i < 0; omega)⟩
/-- rows copied down -/
theorem m_cp1 {β : Type} {K : PP β} {P : β → MM → Prop} {σ : MM} (h : ∀ τ, (∀ j, j < 40 → τ.1 255 j = σ.1 255 (40 + j)) → eqr (fun b j => b = 255 ∧ j < 40) σ τ → wp K τ P) : wp (bd (it (fun (s11 : Int32) => (if (40 : Int32) ≤ s11 then pu (Sum.inr ()) else bd (aI 255 80 ((40 : Int32) + s11)) (fun x12 => bd (uI 255 80 s11 x12) (fun (_ : Unit) => lt (s11 + (1 : Int32)) (fun y13 => pu (Sum.inl y13)))) : PP ((Int32) ⊕ (Unit)))) FU (0 : Int32)) (fun (v14 : Unit) => K)) σ P := by
  refine ws_it (fun k s τ => s = nI k ∧ (∀ j, j < k → τ.1 255 j = σ.1 255 (40 + j)) ∧ eqr (fun b j => b = 255 ∧ j < 40) σ τ) 40 (by decide) ⟨rfl, fun j hj => by omega, eqr_rf⟩ ?_
  rintro k s τ hk ⟨rfl, h1, h2⟩
  by_cases z : k < 40
  · rw [if_neg (show ¬ (40 : Int32) ≤ nI k from nle_n (b := 40) z (by decide)), show (40 : Int32) + nI k = nI (40 + k) from nI_add 40 k]
    refine ws_a (i := 40 + k) (by omega) (by decide) (x := σ.1 255 (40 + k)) (h2.1 _ _ (by omega)) (ws_u (by omega) (by decide) ?_)
    rw [lt_eq, nI_1]
    refine wp_pu (Or.inl ⟨_, rfl, z, rfl, fun j hj => ?_, eqr_tr h2 (eqr_up (by omega))⟩)
    by_cases e : j = k
    · subst e; exact mm_at
    · exact (mm_ne (by omega)).trans (h1 j (by omega))
  · have : k = 40 := by omega
    subst this
    rw [if_pos (show (40 : Int32) ≤ nI 40 by decide)]
    exact wp_pu (Or.inr ⟨(), rfl, h τ h1 h2⟩)
theorem m_cp2 {β : Type} {K : PP β} {P : β → MM → Prop} {σ : MM} {z : Nat} (hz : z ≤ 1001) (e13 : σ.1 249 13 = nI z) (h : ∀ τ, (∀ j, j < z → τ.1 256 j = σ.1 256 (1100 + j) ∧ τ.1 257 j = σ.1 257 (1100 + j)) → eqr (fun b j => (b = 256 ∨ b = 257) ∧ j < 1100) σ τ → wp K τ P) : wp (bd (it (fun (s15 : Int32) => (bd (gI 249 13) (fun x16 => if x16 ≤ s15 then pu (Sum.inr ()) else bd (aI 256 2200 ((1100 : Int32) + s15)) (fun x17 => bd (uI 256 2200 s15 x17) (fun (_ : Unit) => bd (aI 257 2200 ((1100 : Int32) + s15)) (fun x18 => bd (uI 257 2200 s15 x18) (fun (_ : Unit) => lt (s15 + (1 : Int32)) (fun y19 => pu (Sum.inl y19))))))) : PP ((Int32) ⊕ (Unit)))) FU (0 : Int32)) (fun (v20 : Unit) => K)) σ P := by
  refine ws_it (fun k s τ => s = nI k ∧ (∀ j, j < k → τ.1 256 j = σ.1 256 (1100 + j) ∧ τ.1 257 j = σ.1 257 (1100 + j)) ∧ eqr (fun b j => (b = 256 ∨ b = 257) ∧ j < 1100) σ τ) z (by omega) ⟨rfl, fun j hj => by omega, eqr_rf⟩ ?_
  rintro k s τ hk ⟨rfl, h1, h2⟩
  refine ws_gv ((h2.1 _ _ (by omega)).trans e13) ?_
  by_cases q : k < z
  · rw [if_neg (nle_n q (by omega)), show (1100 : Int32) + nI k = nI (1100 + k) from nI_add 1100 k]
    refine ws_a (i := 1100 + k) (by omega) (by decide) (x := σ.1 256 (1100 + k)) (h2.1 _ _ (by omega)) (ws_u (by omega) (by decide) (ws_a (i := 1100 + k) (by omega) (by decide) (x := σ.1 257 (1100 + k)) ((mm_ne (by omega)).trans (h2.1 _ _ (by omega))) (ws_u (by omega) (by decide) ?_)))
    rw [lt_eq, nI_1]
    refine wp_pu (Or.inl ⟨_, rfl, q, rfl, fun j hj => ?_, eqr_tr h2 (eqr_tr (eqr_up (by omega)) (eqr_up (σ := (up2 τ.1 256 k (σ.1 256 (1100 + k)), τ.2)) (by omega)))⟩)
    by_cases e : j = k
    · subst e; exact ⟨(mm_ne (by omega)).trans mm_at, mm_at⟩
    · exact ⟨(mm_ne (by omega)).trans ((mm_ne (by omega)).trans (h1 j (by omega)).1), (mm_ne (by omega)).trans ((mm_ne (by omega)).trans (h1 j (by omega)).2)⟩
  · have : k = z := by omega
    subst this
    rw [if_pos (le_nn (by omega))]
    exact wp_pu (Or.inr ⟨(), rfl, h τ h1 h2⟩)
theorem m_cp3 {β : Type} {K : PP β} {P : β → MM → Prop} {σ : MM} {z : Nat} (hz : z ≤ 15) (e19 : σ.1 249 19 = nI z) (h : ∀ τ, (∀ j, j < z → τ.2.1 258 j = σ.2.1 259 j ∧ τ.1 260 j = σ.1 261 j) → (∀ b j, b ≠ 260 → τ.1 b j = σ.1 b j) → (∀ b j, b ≠ 258 → τ.2.1 b j = σ.2.1 b j) → wp K τ P) : wp (bd (it (fun (s21 : Int32) => (bd (gI 249 19) (fun x22 => if x22 ≤ s21 then pu (Sum.inr ()) else bd (aL 259 15 s21) (fun x23 => bd (uL 258 15 s21 x23) (fun (_ : Unit) => bd (aI 261 15 s21) (fun x24 => bd (uI 260 15 s21 x24) (fun (_ : Unit) => lt (s21 + (1 : Int32)) (fun y25 => pu (Sum.inl y25))))))) : PP ((Int32) ⊕ (Unit)))) FU (0 : Int32)) (fun (v26 : Unit) => K)) σ P := by
  refine ws_it (fun k s τ => s = nI k ∧ (∀ j, j < k → τ.2.1 258 j = σ.2.1 259 j ∧ τ.1 260 j = σ.1 261 j) ∧ (∀ b j, b ≠ 260 → τ.1 b j = σ.1 b j) ∧ (∀ b j, b ≠ 258 → τ.2.1 b j = σ.2.1 b j)) z (by omega) ⟨rfl, fun j hj => by omega, fun _ _ _ => rfl, fun _ _ _ => rfl⟩ ?_
  rintro k s τ hk ⟨rfl, h1, h2, h3⟩
  refine ws_gv ((h2 _ _ (by omega)).trans e19) ?_
  by_cases q : k < z
  · rw [if_neg (nle_n q (by omega))]
    refine ws_aL (by omega) (by decide) (x := σ.2.1 259 k) (h3 _ _ (by omega)) (ws_uL (by omega) (by decide) (ws_a (i := k) (by omega) (by decide) (x := σ.1 261 k) (h2 _ _ (by omega)) (ws_u (by omega) (by decide) ?_)))
    rw [lt_eq, nI_1]
    refine wp_pu (Or.inl ⟨_, rfl, q, rfl, fun j hj => ?_, fun b j n => (mm_ne (by omega)).trans (h2 b j n), fun b j n => (up2L_ne (by omega)).trans (h3 b j n)⟩)
    by_cases e : j = k
    · subst e; exact ⟨up2L_at, mm_at⟩
    · exact ⟨(up2L_ne (by omega)).trans (h1 j (by omega)).1, (mm_ne (by omega)).trans (h1 j (by omega)).2⟩
  · have : k = z := by omega
    subst this
    rw [if_pos (le_nn (by omega))]
    exact wp_pu (Or.inr ⟨(), rfl, h τ h1 h2 h3⟩)
def Rbe (b j : Nat) : Prop := (b = 265 ∧ j < 24) ∨ (b = 262 ∧ j = 0) ∨ (b = 249 ∧ j = 24) ∨ (b = 266 ∧ j < 4)
theorem m_begins {T : TW} {σ : MM} (hV : VTn T) (hT : MTn T σ) : wp (FX12_begins 249) σ (fun _ τ => MSk T 0 (beS T) τ ∧ (∀ p, p < 4 → τ.1 265 (19 + p) = -2) ∧ τ.1 265 23 = 0 ∧ τ.1 262 0 = 0 ∧ τ.1 249 24 = 0 ∧ (∀ m, m < 4 → τ.1 266 m = 0) ∧ eqr Rbe σ τ) := by
  unfold FX12_begins
  rw [r249_23, r249_20, r249_25]
  refine wp_bd (ms_starts (b := 0) hV hT okB0) ?_
  rintro _ τ1 ⟨a1, a2⟩
  refine ws_it (fun k s τ => s = nI k ∧ (∀ p, p < k → τ.1 265 (19 + p) = -2) ∧ eqr (fun b j => b = 265 ∧ 19 ≤ j ∧ j < 23) τ1 τ) 4 (by decide) ⟨rfl, fun p hp => by omega, eqr_rf⟩ ?_
  rintro k s τ hk ⟨rfl, g1, g2⟩
  by_cases z : k < 4
  · rw [if_neg (show ¬ (4 : Int32) ≤ nI k from nle_n (b := 4) z (by decide)), show (19 : Int32) + nI k = nI (19 + k) from nI_add 19 k]
    refine ws_u (by omega) (by decide) ?_
    rw [lt_eq, nI_1]
    refine wp_pu (Or.inl ⟨_, rfl, z, rfl, fun p hp => ?_, eqr_tr g2 (eqr_up (by omega))⟩)
    by_cases e : p = k
    · subst e; exact mm_at
    · exact (mm_ne (by omega)).trans (g1 p (by omega))
  · have : k = 4 := by omega
    subst this
    rw [if_pos (show (4 : Int32) ≤ nI 4 by decide)]
    refine wp_pu (Or.inr ⟨(), rfl, ws_u (i := 23) (by decide) (by decide) (ws_u (i := 0) (by decide) (by decide) (ws_s ?_))⟩)
    have q4 : eqr (fun b j => (b = 265 ∧ j = 23) ∨ (b = 262 ∧ j = 0) ∨ (b = 249 ∧ j = 24)) τ (up2 (up2 (up2 τ.1 265 23 0) 262 0 0) 249 24 0, τ.2) := eqr_tr (eqr_up (by omega)) (eqr_tr (eqr_up (σ := (up2 τ.1 265 23 0, τ.2)) (by omega)) (eqr_up (σ := (up2 (up2 τ.1 265 23 0) 262 0 0, τ.2)) (by omega)))
    have e4 : ((up2 (up2 (up2 τ.1 265 23 0) 262 0 0) 249 24 0, τ.2) : MM).1 265 23 = 0 ∧ ((up2 (up2 (up2 τ.1 265 23 0) 262 0 0) 249 24 0, τ.2) : MM).1 262 0 = 0 ∧ ((up2 (up2 (up2 τ.1 265 23 0) 262 0 0) 249 24 0, τ.2) : MM).1 249 24 = 0 := ⟨(mm_ne (by omega)).trans ((up2_ne (by omega)).trans up2_at), (mm_ne (by omega)).trans up2_at, mm_at⟩
    revert q4 e4
    generalize ((up2 (up2 (up2 τ.1 265 23 0) 262 0 0) 249 24 0, τ.2) : MM) = τ4
    intro q4 e4
    refine ws_it (fun k s τ => s = nI k ∧ (∀ p, p < k → τ.1 266 p = 0) ∧ eqr (fun b j => b = 266 ∧ j < 4) τ4 τ) 4 (by decide) ⟨rfl, fun p hp => by omega, eqr_rf⟩ ?_
    rintro k s τ5 hk ⟨rfl, g5, g6⟩
    by_cases z : k < 4
    · rw [if_neg (show ¬ (4 : Int32) ≤ nI k from nle_n (b := 4) z (by decide))]
      refine ws_u z (by decide) ?_
      rw [lt_eq, nI_1]
      refine wp_pu (Or.inl ⟨_, rfl, z, rfl, fun p hp => ?_, eqr_tr g6 (eqr_up (by omega))⟩)
      by_cases e : p = k
      · subst e; exact mm_at
      · exact (mm_ne (by omega)).trans (g5 p (by omega))
    · have : k = 4 := by omega
      subst this
      rw [if_pos (show (4 : Int32) ≤ nI 4 by decide)]
      refine wp_pu (Or.inr ⟨(), rfl, wp_pu ⟨?_, fun p hp => ?_, ?_, ?_, ?_, g5, ?_⟩⟩)
      · have qa : eqr (fun b j => (b = 265 ∧ 19 ≤ j) ∨ b = 262 ∨ b = 249 ∨ b = 266) τ1 τ5 := eqr_tr (eqr_mono g2 (fun b j z => by omega)) (eqr_tr (eqr_mono q4 (fun b j z => by omega)) (eqr_mono g6 (fun b j z => by omega)))
        exact MSk_r qa hV.1.2.2.1 (fun j q1 q2 => by omega) a1
      · rw [g6.1 _ _ (by omega), q4.1 _ _ (by omega)]; exact g1 p hp
      · rw [g6.1 _ _ (by omega)]; exact e4.1
      · rw [g6.1 _ _ (by omega)]; exact e4.2.1
      · rw [g6.1 _ _ (by omega)]; exact e4.2.2
      · exact eqr_tr (eqr_mono a2 (fun b j z => by unfold Rbe; omega)) (eqr_tr (eqr_mono g2 (fun b j z => by unfold Rbe; omega)) (eqr_tr (eqr_mono q4 (fun b j z => by unfold Rbe; omega)) (eqr_mono g6 (fun b j z => by unfold Rbe; omega))))
