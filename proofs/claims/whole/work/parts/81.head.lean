/-! ===== a line's head: the model ===== -/
theorem SM_g {Q : TA} {m t E t2 E2 : Nat} {σ τ : MM} (h : SM Q m t E σ) (e1 : ∀ j, τ.1 251 j = σ.1 251 j) (e2 : ∀ j, τ.1 252 j = σ.1 252 j) (e3 : ∀ j, τ.2.1 253 j = σ.2.1 253 j) (e4 : ∀ j, τ.2.1 254 j = σ.2.1 254 j) (ht : t2 ≤ m) (h7 : τ.1 249 7 = nI t2) (h8 : τ.1 249 8 = nI E2) : SM Q m t2 E2 τ := by
  obtain ⟨⟨k1, k2, k3, k4⟩, k5, -⟩ := h
  refine ⟨⟨k1, k2, k3, fun u hu => ?_⟩, fun i hi => by rw [e4]; exact k5 i hi, ht, h7, h8⟩
  obtain ⟨l1, l2, l3⟩ := k4 u hu
  exact ⟨(e1 _).trans l1, (e2 _).trans l2, by rw [e3]; exact l3⟩
def HdM (T : TW) (N : NM) (r : Nat) (w : List Nat) (σ τ : MM) : Prop := τ.1 255 (40 + r) = nI (T.1 r + 1) ∧ (∀ j, j ≠ 40 + r → τ.1 255 j = σ.1 255 j) ∧ (∀ T2 : TW, (∀ k, k < 3 → T2.1 k = inT T r k) → MNb 259 261 19 T2 (inW T N r w) τ) ∧ τ.1 249 13 = σ.1 249 13 ∧ (∀ j, τ.1 256 j = σ.1 256 j) ∧ ∀ j, τ.1 257 j = σ.1 257 j
theorem HdM_a {T : TW} {N : NM} {r : Nat} {w : List Nat} {σ τ υ : MM} (hq : eqr Rat τ υ) (h : HdM T N r w σ τ) : HdM T N r w σ υ := by
  have hr : ∀ b j, ¬ (b = 249 ∧ (j = 7 ∨ j = 8)) → ¬ Rat b j := fun b j n q => n (by unfold Rat at q; exact q)
  obtain ⟨h1, h2, h3, h4, h5, h6⟩ := h
  exact ⟨(hq.1 _ _ (hr _ _ (by omega))).trans h1, fun j hj => (hq.1 _ _ (hr _ _ (by omega))).trans (h2 j hj), fun T2 h => MNb_a hq (hr _ _ (by omega)) (fun j => hr _ _ (by omega)) (h3 T2 h), (hq.1 _ _ (hr _ _ (by omega))).trans h4, fun j => (hq.1 _ _ (hr _ _ (by omega))).trans (h5 j), fun j => (hq.1 _ _ (hr _ _ (by omega))).trans (h6 j)⟩
theorem m_readName {Q : TA} {T : TW} {N : NM} {b full : Bool} {m t r mx : Nat} {R : Nat × Nat} {σ : MM} (vQ : VTa Q) (hV : DV T N b) (hmx : (r = 0 ∧ mx = 5) ∨ (r = 1 ∧ mx = 4) ∨ (r = 2 ∧ mx = 6)) (hfull : full = decide (T.1 r = mx)) (ht : t < m) (hS : SM Q m t 0 σ) (hD : DM T N b σ) (hR : hd Q T N full t R) : wp (FX12_readName 249 (nI r) (nI mx) (nI (20 * r))) σ (fun _ τ => SM Q m R.1 R.2 τ ∧ FDm σ τ ∧ (R.2 = 0 → HdM T N r (wT Q (tp Q (t + 1))) σ τ)) := by
  obtain ⟨hm1, hm2⟩ := SM_m vQ hS
  have h5 := hV.1.1.1
  have h4 := hV.1.1.2.1
  have h6 := hV.1.1.2.2.1
  have r3 : r < 3 := by omega
  have hTr : T.1 r ≤ mx := by
    rcases hmx with ⟨rfl, rfl⟩ | ⟨rfl, rfl⟩ | ⟨rfl, rfl⟩
    · exact h5
    · exact h4
    · exact h6
  have ec : σ.1 255 (40 + r) = nI (T.1 r) := by
    rcases hmx with ⟨rfl, rfl⟩ | ⟨rfl, rfl⟩ | ⟨rfl, rfl⟩
    · exact hD.1.1.1
    · exact hD.1.1.2.1
    · exact hD.1.1.2.2
  unfold FX12_readName
  rw [r249_10, r249_15, r249_17, r249_6, show (40 : Int32) + nI r = nI (40 + r) from nI_add 40 r]
  refine ws_a (by omega) (by decide) ec ?_
  by_cases hf : T.1 r = mx
  · rw [if_pos (by rw [hf])]
    have hft : full = true := by rw [hfull]; simp [hf]
    refine wp_bd (m_wrong (k := 5) vQ (by decide) hS) (fun _ τ q => wp_pu ?_)
    rcases hR with ⟨_, rfl⟩ | ⟨h, _⟩ | ⟨h, _⟩ | ⟨h, _⟩
    · exact ⟨q.1, FDm_a q.2, fun z => absurd z (fc_ne (by decide))⟩
    · rw [hft] at h; cases h
    · rw [hft] at h; cases h
    · rw [hft] at h; cases h
  · rw [if_neg (fun q => hf ((nI_eq (by omega) (by omega)).mp q))]
    have hff : full = false := by rw [hfull]; simp [hf]
    obtain ⟨s1, f1⟩ := SM_1 hS ht
    refine ws_gv hS.2.2.2.1 (ws_s ?_)
    revert s1 f1
    generalize ((up2 σ.1 249 7 (nI t + (1 : Int32)), σ.2) : MM) = τ1
    intro s1 f1
    have hD1 := DM_a f1 hD
    refine wp_eq (m_isName vQ (by decide) s1) ?_
    have dead : ∀ (E2 : Nat) (τ : MM), ¬ E2 = 0 → E2 < 20000 → SM Q m (t + 1) E2 τ → eqr Rat τ1 τ → R = (t + 1, E2) → ∀ K : PP Unit, wp (bd (gI 249 8) (fun x8 => bd (if x8 = 0 then K else pu () : PP (Unit)) (fun (v16 : Unit) => pu ()))) τ (fun _ τ => SM Q m R.1 R.2 τ ∧ FDm σ τ ∧ (R.2 = 0 → HdM T N r (wT Q (tp Q (t + 1))) σ τ)) := by
      intro E2 τ n0 hl s f hR2 K
      refine ws_gv s.2.2.2.2 ?_
      rw [if_neg (nI_ne0 (by omega) (by omega))]
      refine wp_eq (show pu () τ = some ((), τ) from rfl) (wp_pu ?_)
      rw [hR2]
      exact ⟨s, FDm_a (eqr_tr f1 f), fun z => absurd z n0⟩
    rcases hR with ⟨h, _⟩ | ⟨_, hb, rfl⟩ | ⟨_, hb, hld, rfl⟩ | ⟨_, hb, hld, rfl⟩
    · rw [hff] at h; cases h
    · rw [hb, if_pos (show b2i (decide ((0 : Nat) = 0) && false) = 0 from rfl)]
      refine bd_asw (wp_bd (m_wrong (k := 1) vQ (by decide) s1) (fun _ τ q => ?_))
      exact wp_eq (show pu () τ = some ((), τ) from rfl) (dead _ τ (fc_ne (by decide)) (fc_lt vQ (by decide)) q.1 q.2 rfl _)
    · rw [hb, if_neg (show ¬ b2i (decide ((0 : Nat) = 0) && true) = 0 by decide)]
      refine bd_asw (wp_bd (m_nameAt (p := 1) vQ (by decide) h5 h4 h6 hV.2.1.1 s1 (nm_1 hb) hD1.2.2) ?_)
      rintro x τ ⟨rfl, hx⟩
      rcases hx with ⟨rfl, hx⟩ | ⟨q, i, hq, hi, rfl, hx⟩
      · exact absurd hld hx
      · have hi6 : i < 6 := by
          by_cases q0 : q = 0
          · subst q0; omega
          by_cases q1 : q = 1
          · subst q1; omega
          have : q = 2 := by omega
          subst this; omega
        rw [if_neg (nI_pos (by omega))]
        refine bd_asw (wp_bd (m_wrong (k := 3) vQ (by decide) s1) (fun _ τ q => ?_))
        exact wp_eq (show pu () τ = some ((), τ) from rfl) (dead _ τ (fc_ne (by decide)) (fc_lt vQ (by decide)) q.1 q.2 rfl _)
    · rw [hb, if_neg (show ¬ b2i (decide ((0 : Nat) = 0) && true) = 0 by decide)]
      refine bd_asw (wp_bd (m_nameAt (p := 1) vQ (by decide) h5 h4 h6 hV.2.1.1 s1 (nm_1 hb) hD1.2.2) ?_)
      rintro x τ ⟨rfl, hx⟩
      rcases hx with ⟨rfl, hx⟩ | ⟨q, i, hq, hi, rfl, hx⟩
      · rw [if_pos (by decide)]
        refine wp_eq (show pu () τ = some ((), τ) from rfl) (ws_gv s1.2.2.2.2 ?_)
        rw [if_pos (show nI 0 = 0 from rfl)]
        have e19 := hD1.2.2.1
        have hv := (s1.1.2.2.2 (t + 1) s1.2.2.1).2.2.1 (nm_1 hb)
        have hS14 : T.1 0 + T.1 1 + T.1 2 < 15 := by
          rcases hmx with ⟨rfl, rfl⟩ | ⟨rfl, rfl⟩ | ⟨rfl, rfl⟩ <;> omega
        have htm : t + 1 < m := t_lt s1 (by rw [nm_1 hb]; decide)
        have e40 : τ.1 255 (40 + r) = nI (T.1 r) := (f1.1 _ _ (fun z => by unfold Rat at z; omega)).trans ec
        refine bd_asw (ws_gv e19 (bd_asw (ws_gv s1.2.2.2.1 (bd_asw (ws_aL (by omega) (by decide) hv (bd_asw (ws_uL hS14 (by decide) (bd_asw (ws_gv e19 (bd_asw ?_))))))))))
        rw [nI_add]
        refine ws_u hS14 (by decide) (bd_asw (ws_gv (x := nI (T.1 0 + T.1 1 + T.1 2)) ((mm_ne (by omega)).trans e19) (bd_asw (ws_s (bd_asw (ws_gv (x := nI (t + 1)) ((mm_ne (by omega)).trans ((mm_ne (by omega)).trans s1.2.2.2.1)) (bd_asw (ws_s (bd_asw (ws_a (by omega) (by decide) (x := nI (T.1 r)) ((mm_ne (by omega)).trans ((mm_ne (by omega)).trans ((mm_ne (by omega)).trans e40))) (bd_asw (ws_u (by omega) (by decide) ?_))))))))))))
        refine wp_eq (show pu () _ = some ((), _) from rfl) (wp_pu ?_)
        have fq : ∀ b j, ¬ ((b = 261) ∨ (b = 249 ∧ (j = 19 ∨ j = 7)) ∨ (b = 255 ∧ j = 40 + r)) → up2 (up2 (up2 (up2 τ.1 261 (T.1 0 + T.1 1 + T.1 2) (nI (20 * r + T.1 r))) 249 19 (nI (T.1 0 + T.1 1 + T.1 2) + 1)) 249 7 (nI (t + 1) + 1)) 255 (40 + r) (nI (T.1 r) + 1) b j = τ.1 b j := fun b j n => by
          rw [up2_ne (by omega), up2_ne (by omega), up2_ne (by omega), up2_ne (by omega)]
        have fl : ∀ b j, b ≠ 259 → up2 τ.2.1 259 (T.1 0 + T.1 1 + T.1 2) (p37 (wT Q (tp Q (t + 1)))) b j = τ.2.1 b j := fun b j n => up2L_ne (by omega)
        refine ⟨SM_g s1 (fun j => by exact fq 251 j (by omega)) (fun j => by exact fq 252 j (by omega)) (fun j => fl 253 j (by omega)) (fun j => fl 254 j (by omega)) (by show t + 2 ≤ m; omega) ?_ ((fq _ _ (by omega)).trans s1.2.2.2.2), ⟨fun b j n => ?_, fun b j n => ?_, ?_⟩, fun _ => ⟨mm_at.trans (nI_1 _), fun j hj => ?_, fun T2 hT2 => MNb_in (σ := τ) r3 hT2 ?_ (fun k hk => ⟨up2L_ne (by omega), ?_⟩) up2L_at ?_ hD1.2.2, ?_, fun j => ?_, fun j => ?_⟩⟩
        · exact (mm_ne (by omega)).trans (mm_at.trans (nI_1 _))
        · unfold RDm at n
          exact (fq b j (by omega)).trans (f1.1 b j (fun z => by unfold Rat at z; omega))
        · show up2 τ.2.1 259 _ _ b j = σ.2.1 b j
          rw [up2L_ne (by omega), f1.2]
        · show τ.2.2 = σ.2.2
          rw [f1.2]
        · exact (fq _ _ (by omega)).trans (f1.1 _ _ (fun z => by unfold Rat at z; omega))
        · exact (mm_ne (by omega)).trans ((mm_ne (by omega)).trans (mm_at.trans (nI_1 _)))
        · exact (mm_ne (by omega)).trans ((mm_ne (by omega)).trans ((mm_ne (by omega)).trans (mm_ne (by omega))))
        · exact (mm_ne (by omega)).trans ((mm_ne (by omega)).trans ((mm_ne (by omega)).trans mm_at))
        · exact (fq 249 13 (by omega)).trans (f1.1 _ _ (fun z => by unfold Rat at z; omega))
        · exact (fq 256 j (by omega)).trans (f1.1 _ _ (fun z => by unfold Rat at z; omega))
        · exact (fq 257 j (by omega)).trans (f1.1 _ _ (fun z => by unfold Rat at z; omega))
      · exact absurd ⟨q, i, hq, hi, hx⟩ hld
