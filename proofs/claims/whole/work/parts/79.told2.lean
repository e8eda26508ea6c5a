/-! ===== names looked up: the model ===== -/
theorem nm_1 {Q : TA} {t : Nat} (h : nmB Q t = true) : yT Q (tp Q t) = 1 := by
  unfold nmB at h
  simp only [Bool.and_eq_true, decide_eq_true_eq] at h
  exact h.1
theorem m_within {a lo hi : Int32} {σ : MM} : FX12_within a lo hi σ = some (decide (lo ≤ a) && decide (a ≤ hi), σ) := by
  unfold FX12_within
  by_cases h1 : a < lo
  · rw [if_pos h1]
    have : ¬ lo ≤ a := by rw [Int32.le_iff_toInt_le]; rw [Int32.lt_iff_toInt_lt] at h1; omega
    simp [this, bd, pu, zb]
  · rw [if_neg h1]
    have e1 : lo ≤ a := by rw [Int32.le_iff_toInt_le]; rw [Int32.lt_iff_toInt_lt] at h1; omega
    by_cases h2 : hi < a
    · rw [if_pos h2]
      have : ¬ a ≤ hi := by rw [Int32.le_iff_toInt_le]; rw [Int32.lt_iff_toInt_lt] at h2; omega
      simp [this, bd, pu, zb]
    · rw [if_neg h2]
      have e2 : a ≤ hi := by rw [Int32.le_iff_toInt_le]; rw [Int32.lt_iff_toInt_lt] at h2; omega
      simp [e1, e2, bd, pu, zb]
theorem wi_k : ∀ r0, (r0 = 0 ∨ r0 = 2) → ∀ r, r < 3 → ∀ i, i < 6 → (¬ r = r0 → (decide ((0 : Int32) ≤ nI (20 * r + i) - nI (20 * r0)) && decide (nI (20 * r + i) - nI (20 * r0) ≤ 5)) = false) ∧ (r = r0 → (decide ((0 : Int32) ≤ nI (20 * r + i) - nI (20 * r0)) && decide (nI (20 * r + i) - nI (20 * r0) ≤ 5)) = true ∧ nI (20 * r + i) - nI (20 * r0) = nI i) ∧ (decide ((0 : Int32) ≤ (-1) - nI (20 * r0)) && decide ((-1) - nI (20 * r0) ≤ (5 : Int32))) = false := by
  intro r0 h0
  rcases h0 with rfl | rfl
  · decide +kernel
  · decide +kernel
theorem m_toldHere {Q : TA} {m t E p r0 : Nat} {T : TW} {N : Nat → Nat → List Nat} {R : Option Nat × Nat} {σ : MM} (vQ : VTa Q) (hE : E < 20000) (hr0 : r0 = 0 ∨ r0 = 2) (hp : p < 2) (h5 : T.1 0 ≤ 5) (h4 : T.1 1 ≤ 4) (h6 : T.1 2 ≤ 6) (hV : VNa T N) (hS : SM Q m t E σ) (hN : MNb (nmR p).1 (nmR p).2.1 (nmR p).2.2 T N σ) (hR : lk Q (N r0) (T.1 r0) t E R) : wp (FX12_toldHere 249 (nI p) (nI (20 * r0))) σ (fun x τ => x = oI R.1 0 ∧ SM Q m t R.2 τ ∧ eqr Rat σ τ) := by
  have r03 : r0 < 3 := by omega
  unfold FX12_toldHere
  refine ws_gv hS.2.2.2.2 ?_
  have dead : ∀ (E2 : Nat) (τ : MM), ¬ E2 = 0 → E2 < 20000 → R = (none, E2) → SM Q m t E2 τ → eqr Rat σ τ → wp (bd (gI 249 8) (fun x5 => bd (if x5 ≤ 0 then bd (FX12_nameAt 249 (nI p)) (fun x6 => pu (x6 - nI (20 * r0))) else pu (-1 : Int32) : PP (Int32)) (fun (v7 : Int32) => bd (gI 249 8) (fun x8 => bd (if x8 = 0 then bd (FX12_within v7 (0 : Int32) (5 : Int32)) (fun x9 => if ((b2i x9)) = 0 then bd (FX12_wrong 249 (2 : Int32)) (fun (_ : Unit) => pu ()) else pu ()) else pu () : PP (Unit)) (fun (v11 : Unit) => bd (gI 249 8) (fun x12 => bd (if x12 ≤ 0 then pu v7 else pu (0 : Int32) : PP (Int32)) (fun (v13 : Int32) => pu v13))))))) τ (fun x τ => x = oI R.1 0 ∧ SM Q m t R.2 τ ∧ eqr Rat σ τ) := by
    intro E2 τ n0 hl hR2 s f
    refine ws_gv s.2.2.2.2 ?_
    rw [if_neg (nI_nle (by omega) (by omega))]
    refine wp_eq (show pu (-1 : Int32) τ = some (_, τ) from rfl) (ws_gv s.2.2.2.2 ?_)
    rw [if_neg (nI_ne0 (by omega) (by omega))]
    refine wp_eq (show pu () τ = some ((), τ) from rfl) (ws_gv s.2.2.2.2 ?_)
    rw [if_neg (nI_nle (by omega) (by omega))]
    refine wp_eq (show pu (0 : Int32) τ = some (_, τ) from rfl) (wp_pu ?_)
    rw [hR2]
    exact ⟨rfl, s, f⟩
  by_cases e0 : E = 0
  · subst e0
    rw [if_pos (show nI 0 = 0 from rfl)]
    refine bd_asw (wp_eq (m_isName vQ hE hS) ?_)
    by_cases hn : nmB Q t = true
    · rw [hn, if_neg (show ¬ b2i (decide ((0 : Nat) = 0) && true) = 0 by decide)]
      have hy := nm_1 hn
      refine wp_eq (show pu () σ = some ((), σ) from rfl) (ws_gv hS.2.2.2.2 ?_)
      rw [if_pos (show nI 0 ≤ 0 by decide)]
      refine bd_asw (wp_bd (m_nameAt vQ hp h5 h4 h6 hV.1 hS hy hN) ?_)
      rintro x τ ⟨rfl, hx⟩
      refine wp_eq (show pu _ τ = some (_, τ) from rfl) (ws_gv hS.2.2.2.2 ?_)
      rw [if_pos (show nI 0 = 0 from rfl)]
      refine bd_asw (wp_eq m_within ?_)
      have no : (∀ i, i < T.1 r0 → ¬ N r0 i = wT Q (tp Q t)) → (decide ((0 : Int32) ≤ x - nI (20 * r0)) && decide (x - nI (20 * r0) ≤ 5)) = false → wp (bd (if b2i (decide ((0 : Int32) ≤ x - nI (20 * r0)) && decide (x - nI (20 * r0) ≤ 5)) = 0 then bd (FX12_wrong 249 (2 : Int32)) (fun (_ : Unit) => pu ()) else pu () : PP Unit) (fun (v11 : Unit) => bd (gI 249 8) (fun x12 => bd (if x12 ≤ 0 then pu (x - nI (20 * r0)) else pu (0 : Int32) : PP (Int32)) (fun (v13 : Int32) => pu v13)))) τ (fun x τ2 => x = oI R.1 0 ∧ SM Q m t R.2 τ2 ∧ eqr Rat τ τ2) := by
        intro hno hf
        rw [hf, if_pos (show b2i false = 0 from rfl)]
        refine bd_asw (wp_bd (m_wrong (k := 2) vQ hE hS) (fun _ τ2 q => ?_))
        refine wp_eq (show pu () τ2 = some ((), τ2) from rfl) (ws_gv q.1.2.2.2.2 ?_)
        have hf2 : fE Q 2 t 0 = fc Q 2 t := rfl
        have h20 := fc_lt (t := t) vQ (show 2 < 10 by decide)
        have h21 := fc_ne (Q := Q) (k := 2) (t := t) (by decide)
        rw [if_neg (by rw [hf2]; exact nI_nle (by omega) (by omega))]
        refine wp_eq (show pu (0 : Int32) τ2 = some (_, τ2) from rfl) (wp_pu ?_)
        rcases hR with ⟨rfl, h⟩ | ⟨rfl, h1, h⟩ | ⟨rfl, h1, h, h2⟩ | ⟨i, hi, rfl, h1, h, h2⟩
        · exact absurd rfl h
        · rw [hn] at h; cases h
        · exact ⟨rfl, q.1, q.2⟩
        · exact absurd h2 (hno i hi)
      rcases hx with ⟨rfl, hx⟩ | ⟨r, i, hr, hi, rfl, hx⟩
      · exact no (fun i hi q => hx ⟨r0, i, r03, hi, q⟩) (wi_k r0 hr0 0 (by decide) 0 (by decide)).2.2
      · have hi6 : i < 6 := by
          by_cases q0 : r = 0
          · subst q0; omega
          by_cases q1 : r = 1
          · subst q1; omega
          have : r = 2 := by omega
          subst this; omega
        by_cases q : r = r0
        · obtain ⟨w1, w2⟩ := (wi_k r0 hr0 r hr i hi6).2.1 q
          subst q
          rw [w1, if_neg (show ¬ b2i true = 0 by decide)]
          refine wp_eq (show pu () τ = some ((), τ) from rfl) (ws_gv hS.2.2.2.2 ?_)
          rw [if_pos (show nI 0 ≤ 0 by decide), w2]
          refine wp_eq (show pu _ τ = some (_, τ) from rfl) (wp_pu ?_)
          rcases hR with ⟨rfl, h⟩ | ⟨rfl, h1, h⟩ | ⟨rfl, h1, h, h2⟩ | ⟨i2, hi2, rfl, h1, h, h2⟩
          · exact absurd rfl h
          · rw [hn] at h; cases h
          · exact absurd hx (h2 i hi)
          · have := (hV.2 r r hr hr i i2 hi hi2 (hx.trans h2.symm)).2
            subst this
            exact ⟨rfl, hS, eqr_rf⟩
        · exact no (fun i2 hi2 q2 => q (hV.2 r r0 hr r03 i i2 hi hi2 (hx.trans q2.symm)).1) ((wi_k r0 hr0 r hr i hi6).1 q)
    · have hn : nmB Q t = false := by simpa using hn
      rw [hn, if_pos (show b2i (decide ((0 : Nat) = 0) && false) = 0 from rfl)]
      refine bd_asw (wp_bd (m_wrong (k := 1) vQ hE hS) (fun _ τ q => ?_))
      refine wp_eq (show pu () τ = some ((), τ) from rfl) ?_
      rcases hR with ⟨rfl, h⟩ | ⟨rfl, h1, h⟩ | ⟨rfl, h1, h, h2⟩ | ⟨i, hi, rfl, h1, h, h2⟩
      · exact absurd rfl h
      · exact dead (fc Q 1 t) τ (fc_ne (by decide)) (fc_lt vQ (by decide)) rfl q.1 q.2
      · rw [hn] at h; cases h
      · rw [hn] at h; cases h
  · rw [if_neg (nI_ne0 (by omega) (by omega))]
    refine wp_eq (show pu () σ = some ((), σ) from rfl) ?_
    rcases hR with ⟨rfl, h⟩ | ⟨rfl, h1, h⟩ | ⟨rfl, h1, h, h2⟩ | ⟨i, hi, rfl, h1, h, h2⟩
    · exact dead E σ e0 hE rfl hS eqr_rf
    · exact absurd h1 e0
    · exact absurd h1 e0
    · exact absurd h1 e0
/-- on by one, where nothing is wrong -/
def nx (t E : Nat) : Nat := if E = 0 then t + 1 else t
theorem lk_y {Q : TA} {N : Nat → List Nat} {n t E : Nat} {R : Option Nat × Nat} (h : lk Q N n t E R) (h0 : R.2 = 0) (hE : E = 0 → R.2 = 0 → True) : yT Q (tp Q t) = 1 := by
  rcases h with ⟨rfl, h⟩ | ⟨rfl, h1, h⟩ | ⟨rfl, h1, h, h2⟩ | ⟨i, hi, rfl, h1, h, h2⟩
  · exact absurd h0 h
  · exact absurd h0 (fc_ne (by decide))
  · exact absurd h0 (fc_ne (by decide))
  · exact nm_1 h
theorem m_on {Q : TA} {m t E : Nat} {β : Type} {k : Unit → PP β} {P : β → MM → Prop} {σ : MM} (hE : E < 20000) (hS : SM Q m t E σ) (hy : E = 0 → ¬ yT Q (tp Q t) = 0) (h : ∀ τ, SM Q m (nx t E) E τ → eqr Rat σ τ → wp (k ()) τ P) : wp (bd (gI 249 7) (fun x2 => bd (gI 249 8) (fun x3 => bd (if x3 ≤ 0 then pu (1 : Int32) else pu (0 : Int32) : PP (Int32)) (fun (v4 : Int32) => bd (sI 249 7 (x2 + v4)) k)))) σ P := by
  refine ws_gv hS.2.2.2.1 (ws_gv hS.2.2.2.2 ?_)
  by_cases e0 : E = 0
  · subst e0
    rw [if_pos (show nI 0 ≤ 0 by decide)]
    refine wp_eq (show pu (1 : Int32) σ = some (_, σ) from rfl) (ws_s ?_)
    obtain ⟨s1, s2⟩ := SM_1 hS (t_lt hS (hy rfl))
    exact h _ s1 s2
  · rw [if_neg (nI_nle (by omega) (by omega))]
    refine wp_eq (show pu (0 : Int32) σ = some (_, σ) from rfl) (ws_s ?_)
    have hq : eqr Rat σ (up2 σ.1 249 7 (nI t + (0 : Int32)), σ.2) := eqr_up (by unfold Rat; omega)
    refine h _ ?_ hq
    unfold nx
    rw [if_neg e0]
    exact SM_r hS hq (fun b j z => by unfold Rat at z; omega) hS.2.2.1 (mm_at.trans (by simp)) ((mm_ne (by omega)).trans hS.2.2.2.2)
theorem m_takeTold {Q : TA} {m t E p r0 : Nat} {T : TW} {N : Nat → Nat → List Nat} {R : Option Nat × Nat} {σ : MM} (vQ : VTa Q) (hE : E < 20000) (hr0 : r0 = 0 ∨ r0 = 2) (hp : p < 2) (h5 : T.1 0 ≤ 5) (h4 : T.1 1 ≤ 4) (h6 : T.1 2 ≤ 6) (hV : VNa T N) (hS : SM Q m t E σ) (hN : MNb (nmR p).1 (nmR p).2.1 (nmR p).2.2 T N σ) (hR : lk Q (N r0) (T.1 r0) t E R) : wp (FX12_takeTold 249 (nI p) (nI (20 * r0))) σ (fun x τ => x = oI R.1 0 ∧ SM Q m (nx t R.2) R.2 τ ∧ eqr Rat σ τ) := by
  unfold FX12_takeTold
  refine wp_bd (m_toldHere vQ hE hr0 hp h5 h4 h6 hV hS hN hR) ?_
  rintro x τ ⟨rfl, s1, f1⟩
  exact m_on (lk_E vQ hE hR).1 s1 (fun q => by rw [lk_y hR q (fun _ _ => trivial)]; decide) (fun τ2 s2 f2 => wp_pu ⟨rfl, s2, eqr_tr f1 f2⟩)
