/-! ===== a street told: the model, and both ===== -/
theorem m_street {A : AB} {E : Nat} {T : TW} {N : NM} {b : Bool} {σ : MM} (hE : E < 20000) (hVA : VA A) (hv : E = 0 → DV T N b) (hA : MA A σ) (hM : ∀ (β : Type) (K : PP β) (P : β → MM → Prop), (∀ τ, τ.1 249 8 = nI E → τ.1 249 2 = 0 → (E = 0 → DM T N b τ) → FGm σ τ → wp K τ P) → wp (bd (sI 249 0 (0 : Int32)) (fun (_ : Unit) => bd (FX12_cutAll 249) (fun (_ : Unit) => bd (sI 249 13 (0 : Int32)) (fun (_ : Unit) => bd (sI 249 19 (0 : Int32)) (fun (_ : Unit) => bd (FX12_standsAsAlways 249 (40 : Int32)) (fun (_ : Unit) => bd (it twM FU ()) (fun (_ : Unit) => K))))))) σ P) : wp (FX12_street 249) σ (fun x τ => x = nI E ∧ MA (if E = 0 then nwT T N A.2.2.2.2.2.1.2 else taA A (0, A.2.2.2.2.2.1.2)) τ ∧ ofM σ τ) := by
  unfold FX12_street
  rw [r249_4, r249_10, r249_11, r249_12, r249_14, r249_15, r249_16, r249_17]
  refine hM _ _ _ (fun τ e8 e2 hD f => ?_)
  refine ws_gv e8 ?_
  have nG : ∀ b j, ¬ ((b = 249 ∧ (j = 7 ∨ j = 8 ∨ j = 13 ∨ j = 19)) ∨ (b = 255 ∧ 40 ≤ j) ∨ ((b = 256 ∨ b = 257) ∧ 1100 ≤ j) ∨ b = 261 ∨ b = 251 ∨ b = 252 ∨ (b = 249 ∧ (j = 0 ∨ j = 2 ∨ j = 3))) → ¬ RGm b j := fun b j n q => n (by unfold RGm RDm at q; omega)
  by_cases z : E = 0
  · rw [if_pos (show nI E ≤ 0 by rw [z]; decide), if_pos z]
    obtain ⟨⟨⟨a1, a2, a3⟩, a4, a5, a6, a7⟩, b1, c1⟩ := hD z
    have hV := hv z
    obtain ⟨⟨v1, v2, v3, v4⟩, -, -, -⟩ := hV.1
    refine m_cp1 (fun τ1 h1 q1 => ?_)
    obtain ⟨zz, hzz, ez⟩ : ∃ zz, zz ≤ 1001 ∧ τ.1 249 13 = nI zz := by
      rcases b1 with ⟨_, _, h⟩ | ⟨_, _, h, _⟩
      · exact ⟨0, by decide, h⟩
      · exact ⟨T.1 3 + 1, by omega, h⟩
    refine m_cp2 (z := zz) hzz ((q1.1 _ _ (by omega)).trans ez) (fun τ2 h2 q2 => ?_)
    obtain ⟨c19, K, c2, c3⟩ := c1
    refine m_cp3 (z := T.1 0 + T.1 1 + T.1 2) (by omega) ((q2.1 _ _ (by omega)).trans ((q1.1 _ _ (by omega)).trans c19)) (fun τ3 h3 q3 l3 => ?_)
    refine ws_gv ((q3 _ _ (by omega)).trans ((q2.1 _ _ (by omega)).trans ((q1.1 _ _ (by omega)).trans c19))) (ws_s ?_)
    have q4 : eqr (fun b j => b = 249 ∧ j = 18) τ3 (up2 τ3.1 249 18 (nI (T.1 0 + T.1 1 + T.1 2)), τ3.2) := eqr_up (by omega)
    have e4 : ((up2 τ3.1 249 18 (nI (T.1 0 + T.1 1 + T.1 2)), τ3.2) : MM).1 249 18 = nI (T.1 0 + T.1 1 + T.1 2) := mm_at
    revert q4 e4
    generalize ((up2 τ3.1 249 18 (nI (T.1 0 + T.1 1 + T.1 2)), τ3.2) : MM) = τ4
    intro q4 e4
    have e255 : ∀ j, j < 40 → τ4.1 255 j = τ.1 255 (40 + j) := fun j hj => by
      rw [q4.1 _ _ (by omega), q3 _ _ (by omega), q2.1 _ _ (by omega)]; exact h1 j hj
    have e256 : ∀ j, j < zz → τ4.1 256 j = τ.1 256 (1100 + j) ∧ τ4.1 257 j = τ.1 257 (1100 + j) := fun j hj => by
      rw [q4.1 _ _ (by omega), q3 _ _ (by omega), q4.1 _ _ (by omega), q3 _ _ (by omega), (h2 j hj).1, (h2 j hj).2, q1.1 _ _ (by omega), q1.1 _ _ (by omega)]
      exact ⟨rfl, rfl⟩
    have hT : MTn T τ4 := by
      refine ⟨⟨(e255 0 (by decide)).trans a1, (e255 1 (by decide)).trans a2, (e255 2 (by decide)).trans a3, v1, v2, v3⟩, fun l hl => ⟨?_, ?_⟩, fun p hp => ?_, fun c hc => ⟨?_, ?_⟩, ?_⟩
      · rw [e255 _ (by omega), show 40 + (4 + 2 * l) = 44 + 2 * l by omega]; exact (a4 l hl).1
      · rw [e255 _ (by omega), show 40 + (5 + 2 * l) = 45 + 2 * l by omega]; exact (a4 l hl).2
      · rw [e255 _ (by omega), show 40 + (14 + p) = 54 + p by omega]; exact a5 p hp
      · rw [e255 _ (by omega), show 40 + (18 + 2 * c) = 58 + 2 * c by omega]; exact (a6 c hc).1
      · rw [e255 _ (by omega), show 40 + (19 + 2 * c) = 59 + 2 * c by omega]; exact (a6 c hc).2
      · rcases b1 with ⟨hb, h43, h13⟩ | ⟨hb, h43, h13, hcm, h0⟩
        · exact Or.inl ⟨(e255 3 (by decide)).trans h43, hV.2.2.1 hb⟩
        · have ezz : zz = T.1 3 + 1 := (nI_eq (by omega) (by omega)).mp (ez.symm.trans h13)
          refine Or.inr ⟨(e255 3 (by decide)).trans h43, fun k hk => ?_, ?_⟩
          · rw [(e256 k (by omega)).1, (e256 k (by omega)).2]
            exact hcm k hk
          · rw [(e256 _ (by omega)).1]; exact h0
    refine wp_bd (m_begins hV.1 hT) ?_
    rintro _ τ5 ⟨g1, g2, g3, g4, g5, g6, g7⟩
    have nB : ∀ b j, ¬ ((b = 265 ∧ j < 24) ∨ (b = 262 ∧ j = 0) ∨ (b = 249 ∧ j = 24) ∨ (b = 266 ∧ j < 4)) → ¬ Rbe b j := fun b j n q => n (by unfold Rbe at q; exact q)
    have fr : ∀ b j, ¬ ((b = 265 ∧ j < 24) ∨ (b = 262 ∧ j = 0) ∨ (b = 249 ∧ (j = 24 ∨ j = 18)) ∨ (b = 266 ∧ j < 4) ∨ b = 260 ∨ ((b = 256 ∨ b = 257) ∧ j < 1100) ∨ (b = 255 ∧ j < 40)) → τ5.1 b j = τ.1 b j := fun b j n => by
      rw [g7.1 b j (nB _ _ (by omega)), q4.1 b j (by omega), q3 b j (by omega), q2.1 b j (by omega), q1.1 b j (by omega)]
    have fl : ∀ b j, b ≠ 258 → τ5.2.1 b j = τ.2.1 b j := fun b j n => by
      rw [g7.2, q4.2, l3 b j n, q2.2, q1.2]
    refine wp_pu ⟨by rw [z]; rfl, ⟨?_, ⟨g1, fun p hp => ?_, ?_, fun i hi => absurd hi (by show ¬ i < 0; omega)⟩, ⟨by show 0 ≤ 16; decide, g5, fun i hi => absurd hi (by show ¬ i < 0; omega)⟩, ⟨g4, fun i hi => absurd hi (by show ¬ i < 0; omega)⟩, fun m hm => ⟨g6 m hm, fun q => absurd q (by show ¬ false = true; decide)⟩, ⟨?_, fun i hi => absurd hi (by show ¬ i < 0; omega)⟩, ?_, ?_, K, fun k hk => ?_, c3⟩, fun b j n => ?_, fun b j n => ?_⟩
    · exact MTn_r g7 (fun b j h1 h2 => nB b j (by omega)) hT
    · show τ5.1 265 (0 + 19 + p) = -2
      rw [show 0 + 19 + p = 19 + p by omega]; exact g2 p hp
    · exact g3
    · exact (fr 249 2 (by omega)).trans e2
    · intro i hi
      rw [fl 254 i (by decide), f.2 254 i (by decide) (by decide)]
      exact hA.2.2.2.2.2.2.1 i hi
    · rw [g7.1 249 18 (nB _ _ (by omega))]; exact e4
    · have hk' : k < T.1 0 + T.1 1 + T.1 2 := hk
      obtain ⟨k1, k2, k3, k4⟩ := c2 k hk'
      refine ⟨k1, k2, ?_, ?_⟩
      · rw [g7.2, q4.2, (h3 k hk').1, q2.2, q1.2]; exact k3
      · rw [g7.1 260 k (nB _ _ (by omega)), q4.1 260 k (by omega), (h3 k hk').2, q2.1 261 k (by omega), q1.1 261 k (by omega)]; exact k4
    · exact (fr b j (by omega)).trans (f.1 b j (nG _ _ (by omega)))
    · exact (fl b j (by omega)).trans (f.2 b j (by omega) (by omega))
  · rw [if_neg (nI_nle (by omega) (by omega)), if_neg z]
    refine ws_gv e8 (wp_pu ⟨rfl, ?_, fun b j n => f.1 b j (nG _ _ (by omega)), fun b j n => f.2 b j (by omega) (by omega)⟩)
    have h1 : MA A (up2 τ.1 249 2 (σ.1 249 2), τ.2) := by
      refine MA_g (σ := σ) hVA (fun b j h1 h2 => ?_) (fun b j h1 => f.2 b j (by omega) (by omega)) hA
      by_cases q : b = 249 ∧ j = 2
      · rw [q.1, q.2]; exact mm_at
      · unfold scM at h2
        exact (mm_ne q).trans (f.1 b j (nG _ _ (by omega)))
    exact MA_ta hVA h1 ⟨fun b j n => (mm_ne (by omega)).symm, rfl⟩ ⟨e2, fun i hi => absurd hi (by show ¬ i < 0; omega)⟩
theorem ok_1 {σ : MM} (h : Inv σ) (q : Nat → Int32) : okC (fun chk => TL_1 chk q) σ := by
  obtain ⟨A, hV, hC, hM⟩ := h
  obtain ⟨E, T, N, b, ⟨p1, p2⟩, pC, pM⟩ := town_ex (Q := A.2.2.2.2.2.1) hV.2.2.2.2.2.1
  have hV2 : VA (if E = 0 then nwT T N A.2.2.2.2.2.1.2 else taA A (0, A.2.2.2.2.2.1.2)) := by
    by_cases z : E = 0
    · rw [if_pos z]; exact VA_nwT (p2 z)
    · rw [if_neg z]; exact VA_ta0 hV
  exact okC_of (eq := fun x y => x = y) rfl hV hV2 hM (c_street p1 p2 hC (pC σ hC.2.2.2.2.2.1)) (fun τ hMt => m_street p1 hV p2 hMt (fun β K P hh => pM τ β K P hMt.2.2.2.2.2.1 hMt.2.2.2.2.2.2.1 hh))
