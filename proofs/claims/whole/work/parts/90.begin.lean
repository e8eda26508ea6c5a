/-! ===== a street's reading, from its start ===== -/
def pl3 (k : Nat) : Int32 := if k = 0 then 1 else if k = 1 then -2 else -10
def T00 : TW := (fun k => if k = 3 then 3 else 0, fun r k => if r = 5 then pl3 k else 0)
theorem WF_pl : WF pl3 3 := by
  refine ⟨fun k hk => ?_, by decide +kernel⟩
  have : k = 0 ∨ k = 1 ∨ k = 2 := by omega
  rcases this with rfl | rfl | rfl
  · unfold okS; decide +kernel
  · unfold okS; decide +kernel
  · unfold okS; decide +kernel
theorem DV_0 : DV T00 (fun _ _ => []) false := by
  refine ⟨⟨⟨by decide, by decide, by decide, by decide⟩, WF_pl, fun c hc => absurd hc (by show ¬ c < 0; omega), fun l hl => absurd hl (by show ¬ l < 0; omega)⟩, ⟨fun r hr i hi => ?_, fun r s hr hs i j hi hj he => ?_⟩, fun _ => ⟨rfl, rfl, rfl, rfl⟩, fun l hl => absurd hl (by show ¬ l < 0; omega)⟩
  · exfalso
    have : T00.1 r = 0 := by show (if r = 3 then 3 else 0) = 0; rw [if_neg (by omega)]
    omega
  · exfalso
    have : T00.1 r = 0 := by show (if r = 3 then 3 else 0) = 0; rw [if_neg (by omega)]
    omega
theorem yT_n0 {Q : TA} {i : Nat} (h : sT Q i < Q.1) : ¬ yT Q i = 0 := by
  unfold yT
  rw [if_pos h]
  split
  · split <;> decide
  · split
    · split <;> decide
    · split <;> decide
/-- how many tokens there are -/
theorem tkm_ex {Q : TA} (vQ : VTa Q) : ∃ m, m ≤ Q.1 ∧ sT Q (tp Q m) = Q.1 ∧ ∀ t, t < m → sT Q (tp Q t) < Q.1 := by
  obtain ⟨_, τ, _, ⟨m, h⟩, _⟩ := m_cutAll (Q := Q) (σ := (fun b j => if b = 249 then nI Q.1 else Q.2 j, fun _ _ => 0, none)) vQ ⟨rfl, fun i hi => rfl⟩
  exact ⟨m, h.1, h.2.1, h.2.2.1⟩
theorem tkm_u {Q : TA} {m n : Nat} (h1 : sT Q (tp Q m) = Q.1) (h2 : ∀ t, t < m → sT Q (tp Q t) < Q.1) (k1 : sT Q (tp Q n) = Q.1) (k2 : ∀ t, t < n → sT Q (tp Q t) < Q.1) : m = n := by
  rcases Nat.lt_trichotomy m n with h | h | h
  · have := k2 m h; omega
  · exact h
  · have := h2 n h; omega
/-- plain drying, written -/
theorem c_step {σ : MM} {z : Nat} {s : Int32} (hz : z < 1000) (h : σ.1 25 2 = nI z) : wp (FX0_addStep 25 s) σ (fun _ τ => τ.1 25 2 = nI (z + 1) ∧ τ.1 26 z = s ∧ (∀ k, k ≠ z → τ.1 26 k = σ.1 26 k) ∧ eqr (fun b j => (b = 25 ∧ j = 2) ∨ b = 26) σ τ) := by
  unfold FX0_addStep
  rw [r25_0]
  refine ws_gv h ?_
  rw [if_neg (show ¬ (1000 : Int32) ≤ nI z from nle_n (b := 1000) hz (by decide))]
  refine bd_asw (ws_gv h (bd_asw (ws_u hz (by decide) (bd_asw (ws_gv (x := nI z) ((mm_ne (by omega)).trans h) (bd_asw (ws_s ?_)))))))
  refine wp_eq (show pu () _ = some ((), _) from rfl) (wp_pu ?_)
  have hq : eqr (fun b j => (b = 25 ∧ j = 2) ∨ b = 26) σ (up2 (up2 σ.1 26 z s) 25 2 (nI z + 1), σ.2) := eqr_tr (eqr_up (by omega)) (eqr_up (σ := (up2 σ.1 26 z s, σ.2)) (by omega))
  exact ⟨mm_at.trans (nI_1 _), (mm_ne (by omega)).trans mm_at, fun k hk => (mm_ne (by omega)).trans (mm_ne (by omega)), hq⟩
theorem c_setPlain {σ : MM} : wp (FX0_setPlain 25) σ (fun _ τ => τ.1 25 2 = nI 3 ∧ (∀ k, k < 3 → τ.1 26 k = pl3 k) ∧ eqr (fun b j => (b = 25 ∧ j = 2) ∨ b = 26) σ τ) := by
  unfold FX0_setPlain
  refine ws_s (wp_bd (c_step (z := 0) (by decide) (mm_at)) ?_)
  rintro _ τ1 ⟨a1, a2, a3, a4⟩
  refine wp_bd (c_step (z := 1) (by decide) a1) ?_
  rintro _ τ2 ⟨b1, b2, b3, b4⟩
  refine wp_bd (c_step (z := 2) (by decide) b1) ?_
  rintro _ τ3 ⟨c1, c2, c3, c4⟩
  refine wp_pu ⟨c1, fun k hk => ?_, eqr_tr (eqr_tr (eqr_up (by omega)) a4) (eqr_tr b4 c4)⟩
  have : k = 0 ∨ k = 1 ∨ k = 2 := by omega
  rcases this with rfl | rfl | rfl
  · rw [c3 0 (by decide), b3 0 (by decide), a2]; rfl
  · rw [c3 1 (by decide), b2]; rfl
  · rw [c2]; rfl
theorem m_stands {σ : MM} {p : Nat} (hp : p ≤ 40) : wp (FX12_standsAsAlways 249 (nI p)) σ (fun _ τ => (∀ j, p ≤ j → j < p + 40 → ¬ j = p + 3 → τ.1 255 j = 0) ∧ τ.1 255 (p + 3) = -1 ∧ eqr (fun b j => b = 255 ∧ p ≤ j ∧ j < p + 40) σ τ) := by
  unfold FX12_standsAsAlways
  rw [r249_10]
  refine ws_it (fun k s τ => s = nI k ∧ (∀ j, p ≤ j → j < p + k → τ.1 255 j = 0) ∧ eqr (fun b j => b = 255 ∧ p ≤ j ∧ j < p + 40) σ τ) 40 (by decide) ⟨rfl, fun j h1 h2 => by omega, eqr_rf⟩ ?_
  rintro k s τ hk ⟨rfl, h1, h2⟩
  by_cases z : k < 40
  · rw [if_neg (show ¬ (40 : Int32) ≤ nI k from nle_n (b := 40) z (by decide)), nI_add]
    refine ws_u (by omega) (by decide) ?_
    rw [lt_eq, nI_1]
    refine wp_pu (Or.inl ⟨_, rfl, z, rfl, fun j q1 q2 => ?_, eqr_tr h2 (eqr_up (by omega))⟩)
    by_cases e : j = p + k
    · subst e; exact mm_at
    · exact (mm_ne (by omega)).trans (h1 j q1 (by omega))
  · have : k = 40 := by omega
    subst this
    rw [if_pos (show (40 : Int32) ≤ nI 40 by decide)]
    refine wp_pu (Or.inr ⟨(), rfl, ?_⟩)
    rw [show nI p + (3 : Int32) = nI (p + 3) from nI_add p 3]
    refine ws_u (by omega) (by decide) (wp_pu ⟨fun j q1 q2 q3 => (mm_ne (by omega)).trans (h1 j q1 q2), mm_at, eqr_tr h2 (eqr_up (by omega))⟩)
def FGc (σ τ : MM) : Prop := (∀ b j, ¬ (b = 1 ∨ (15 ≤ b ∧ b ≤ 27)) → τ.1 b j = σ.1 b j) ∧ ∀ b j, b ≠ 1 → ¬ (17 ≤ b ∧ b ≤ 19) → τ.2.1 b j = σ.2.1 b j
def RGm (b j : Nat) : Prop := RDm b j ∨ b = 251 ∨ b = 252 ∨ (b = 249 ∧ (j = 0 ∨ j = 2 ∨ j = 3))
def FGm (σ τ : MM) : Prop := (∀ b j, ¬ RGm b j → τ.1 b j = σ.1 b j) ∧ ∀ b j, b ≠ 259 → b ≠ 253 → τ.2.1 b j = σ.2.1 b j
theorem town_ex {Q : TA} (vQ : VTa Q) : ∃ (E : Nat) (T : TW) (N : NM) (b : Bool), (E < 20000 ∧ (E = 0 → DV T N b)) ∧ (∀ σ, CTa Q σ → wp (FX8_readTown 15) σ (fun x τ => x = nI E ∧ τ.1 1 1 = 0 ∧ (E = 0 → DC T N b τ) ∧ FGc σ τ)) ∧ ∀ (σ : MM) (β : Type) (K : PP β) (P : β → MM → Prop), MTa Q σ → (∀ i, i < 23 → σ.2.1 254 i = wtb.getD i 0) → (∀ τ, τ.1 249 8 = nI E → τ.1 249 2 = 0 → (E = 0 → DM T N b τ) → FGm σ τ → wp K τ P) → wp (bd (sI 249 0 (0 : Int32)) (fun (_ : Unit) => bd (FX12_cutAll 249) (fun (_ : Unit) => bd (sI 249 13 (0 : Int32)) (fun (_ : Unit) => bd (sI 249 19 (0 : Int32)) (fun (_ : Unit) => bd (FX12_standsAsAlways 249 (40 : Int32)) (fun (_ : Unit) => bd (it twM FU ()) (fun (_ : Unit) => K))))))) σ P := by
  obtain ⟨m, m1, m2, m3⟩ := tkm_ex vQ
  have hm : m ≤ 1000 := Nat.le_trans m1 vQ.1
  have hend : yT Q (tp Q m) = 0 := yT_0 (by omega)
  obtain ⟨t, E, T, N, b, ⟨p1, p2⟩, pC, pM⟩ := tw_loop vQ hm hend (fun t ht => yT_n0 (m3 t ht)) m 0 T00 (fun _ _ => []) false 0 DV_0 (by omega) (by omega) (by omega)
  have hFU := FU_ge
  refine ⟨E, T, N, b, ⟨p1, p2⟩, fun σ hQ => ?_, fun σ β K P hQ hw h => ?_⟩
  · unfold FX8_readTown FX7_clear FX5_startReading FX5_endReading
    rw [r15_0, r15_1, r16_8]
    refine bd_asw (ws_s (bd_asw (ws_s (bd_asw (ws_s (bd_asw (wp_bd c_setPlain ?_)))))))
    rintro _ τ1 ⟨a1, a2, a3⟩
    have q1 : eqr (fun b j => (b = 16 ∧ (j = 9 ∨ j = 10 ∨ j = 11)) ∨ (b = 25 ∧ j = 2) ∨ b = 26) σ τ1 := eqr_tr (eqr_tr (eqr_up (by omega)) (eqr_tr (eqr_up (σ := (up2 σ.1 16 9 0, σ.2)) (by omega)) (eqr_up (σ := (up2 (up2 σ.1 16 9 0) 16 10 0, σ.2)) (by omega)))) (eqr_mono a3 (fun b j z => by omega))
    have e9 : τ1.1 16 9 = 0 ∧ τ1.1 16 10 = 0 ∧ τ1.1 16 11 = 0 := ⟨(a3.1 _ _ (by omega)).trans ((mm_ne (by omega)).trans ((mm_ne (by omega)).trans mm_at)), (a3.1 _ _ (by omega)).trans ((mm_ne (by omega)).trans mm_at), (a3.1 _ _ (by omega)).trans mm_at⟩
    refine wp_eq (show pu () τ1 = some ((), τ1) from rfl) (ws_s (bd_asw (ws_s (bd_asw (ws_s ?_)))))
    have q2 : eqr (fun b j => (b = 15 ∧ j = 2) ∨ (b = 1 ∧ (j = 6 ∨ j = 8))) τ1 (up2 (up2 (up2 τ1.1 15 2 0) 1 6 0) 1 8 0, τ1.2) := eqr_tr (eqr_up (by omega)) (eqr_tr (eqr_up (σ := (up2 τ1.1 15 2 0, τ1.2)) (by omega)) (eqr_up (σ := (up2 (up2 τ1.1 15 2 0) 1 6 0, τ1.2)) (by omega)))
    have e2 : ((up2 (up2 (up2 τ1.1 15 2 0) 1 6 0) 1 8 0, τ1.2) : MM).1 1 8 = nI 0 ∧ ((up2 (up2 (up2 τ1.1 15 2 0) 1 6 0) 1 8 0, τ1.2) : MM).1 1 6 = nI 0 ∧ ((up2 (up2 (up2 τ1.1 15 2 0) 1 6 0) 1 8 0, τ1.2) : MM).1 15 2 = 0 := ⟨mm_at, (mm_ne (by omega)).trans up2_at, (mm_ne (by omega)).trans ((up2_ne (by omega)).trans up2_at)⟩
    revert q2 e2
    generalize ((up2 (up2 (up2 τ1.1 15 2 0) 1 6 0) 1 8 0, τ1.2) : MM) = τ2
    intro q2 e2
    have hQ2 : CTa Q τ2 := ⟨(q2.1 _ _ (by omega)).trans ((q1.1 _ _ (by omega)).trans hQ.1), fun i hi => (q2.1 _ _ (by omega)).trans ((q1.1 _ _ (by omega)).trans (hQ.2 i hi))⟩
    refine bd_asw (wp_bd (c_advance (i := 0) vQ hQ2 (by omega) e2.1) ?_)
    rintro _ τ3 ⟨k1, k2, k3⟩
    refine wp_eq (show pu () τ3 = some ((), τ3) from rfl) ?_
    have s3 : SC Q 0 0 τ3 := ⟨CTa_f k3 hQ2, k2.trans e2.2.1, fun _ => k1, fun n => absurd rfl n⟩
    have e3 : ∀ b j, ¬ (b = 1 ∨ (b = 15 ∧ j = 2)) → τ3.1 b j = τ1.1 b j := fun b j n => (k3.1 b j (by omega)).trans (q2.1 b j (by omega))
    have d3 : DC T00 (fun _ _ => []) false τ3 := by
      refine ⟨⟨(e3 _ _ (by omega)).trans e9.1, (e3 _ _ (by omega)).trans e9.2.1, (e3 _ _ (by omega)).trans e9.2.2⟩, fun l hl => absurd hl (by show ¬ l < 0; omega), fun l hl => absurd hl (by show ¬ l < 0; omega), fun l hl => absurd hl (by show ¬ l < 0; omega), ⟨(e3 _ _ (by omega)).trans a1, fun k hk => (e3 _ _ (by omega)).trans (a2 k hk)⟩, (k3.1 _ _ (by omega)).trans e2.2.2, fun r hr i hi => ?_⟩
      exfalso
      have : T00.1 r = 0 := by show (if r = 3 then 3 else 0) = 0; rw [if_neg (by omega)]
      omega
    refine wp_bd (pC τ3 FU (by omega) s3 d3) ?_
    rintro _ τ4 ⟨s4, d4, f4⟩
    refine bd_asw (ws_s (bd_asw (ws_gv (x := nI E) ((mm_ne (by omega)).trans s4.2.1) ?_)))
    refine wp_eq (show pu (nI E) _ = some (_, _) from rfl) (wp_pu ⟨rfl, mm_at, fun z => ?_, fun b j n => ?_, fun b j n1 n2 => ?_⟩)
    · obtain ⟨⟨u1, u2, u3⟩, u4, u5, u6, ⟨u7, u8⟩, u9, u10⟩ := d4 z
      refine ⟨⟨(mm_ne (by omega)).trans u1, (mm_ne (by omega)).trans u2, (mm_ne (by omega)).trans u3⟩, fun l hl => ⟨(mm_ne (by omega)).trans (u4 l hl).1, (mm_ne (by omega)).trans (u4 l hl).2⟩, fun l hl => (mm_ne (by omega)).trans (u5 l hl), fun l hl => ⟨(mm_ne (by omega)).trans (u6 l hl).1, (mm_ne (by omega)).trans (u6 l hl).2⟩, ⟨(mm_ne (by omega)).trans u7, fun k hk => (mm_ne (by omega)).trans (u8 k hk)⟩, (mm_ne (by omega)).trans u9, u10⟩
    · refine (mm_ne (by omega)).trans ((f4.1 b j (by omega)).trans ((e3 b j (by omega)).trans (q1.1 b j (by omega))))
    · show τ4.2.1 b j = σ.2.1 b j
      rw [f4.2 b j n1 n2, k3.2.2 b j n1, q2.2, q1.2]
  · refine ws_s ?_
    have q0 : eqr (fun b j => b = 249 ∧ j = 0) σ (up2 σ.1 249 0 0, σ.2) := eqr_up (by omega)
    revert q0
    generalize ((up2 σ.1 249 0 0, σ.2) : MM) = τ0
    intro q0
    refine wp_bd (m_cutAll vQ (σ := τ0) ⟨(q0.1 _ _ (by omega)).trans hQ.1, fun i hi => (q0.1 _ _ (by omega)).trans (hQ.2 i hi)⟩) ?_
    rintro _ τ1 ⟨⟨m', hk⟩, h7, h8, hz, f1⟩
    have em : m' = m := tkm_u hk.2.1 hk.2.2.1 m2 m3
    subst em
    have ncu : ∀ b j, ¬ (b = 251 ∨ b = 252 ∨ (b = 249 ∧ (j = 2 ∨ j = 3 ∨ j = 7 ∨ j = 8))) → ¬ Rcu b j := fun b j n q => n (by unfold Rcu at q; exact q)
    have s1 : SM Q m' 0 0 τ1 := ⟨hk, fun i hi => by rw [f1.2 254 i (by decide), q0.2]; exact hw i hi, by omega, h7, h8⟩
    refine ws_s (ws_s ?_)
    have q2 : eqr (fun b j => b = 249 ∧ (j = 13 ∨ j = 19)) τ1 (up2 (up2 τ1.1 249 13 0) 249 19 0, τ1.2) := eqr_tr (eqr_up (by omega)) (eqr_up (σ := (up2 τ1.1 249 13 0, τ1.2)) (by omega))
    have e2 : ((up2 (up2 τ1.1 249 13 0) 249 19 0, τ1.2) : MM).1 249 13 = 0 ∧ ((up2 (up2 τ1.1 249 13 0) 249 19 0, τ1.2) : MM).1 249 19 = 0 := ⟨(mm_ne (by omega)).trans up2_at, mm_at⟩
    revert q2 e2
    generalize ((up2 (up2 τ1.1 249 13 0) 249 19 0, τ1.2) : MM) = τ2
    intro q2 e2
    refine wp_bd (m_stands (σ := τ2) (p := 40) (by decide)) ?_
    rintro _ τ3 ⟨a1, a2, a3⟩
    have q23 : eqr (fun b j => (b = 249 ∧ (j = 13 ∨ j = 19)) ∨ (b = 255 ∧ 40 ≤ j)) τ1 τ3 := eqr_tr (eqr_mono q2 (fun b j z => by omega)) (eqr_mono a3 (fun b j z => by omega))
    have s3 : SM Q m' 0 0 τ3 := SM_r s1 q23 (fun b j z => by omega) (by omega) ((q23.1 _ _ (by omega)).trans h7) ((q23.1 _ _ (by omega)).trans h8)
    have d3 : DM T00 (fun _ _ => []) false τ3 := by
      refine ⟨⟨⟨a1 40 (by decide) (by decide) (by decide), a1 41 (by decide) (by decide) (by decide), a1 42 (by decide) (by decide) (by decide)⟩, fun l hl => absurd hl (by show ¬ l < 0; omega), fun l hl => absurd hl (by show ¬ l < 0; omega), fun l hl => absurd hl (by show ¬ l < 0; omega), fun l _ hl => a1 _ (by omega) (by omega) (by omega)⟩, Or.inl ⟨rfl, a2, (a3.1 _ _ (by omega)).trans e2.1⟩, (a3.1 _ _ (by omega)).trans e2.2, fun _ => (0, 0), fun k hk => absurd hk (by show ¬ k < 0; omega), fun r hr i hi => ?_⟩
      exfalso
      have : T00.1 r = 0 := by show (if r = 3 then 3 else 0) = 0; rw [if_neg (by omega)]
      omega
    refine wp_bd (pM τ3 FU (by omega) s3 d3) ?_
    rintro _ τ4 ⟨s4, d4, f4⟩
    have nR : ∀ b j, ¬ ((b = 249 ∧ (j = 7 ∨ j = 8 ∨ j = 13 ∨ j = 19)) ∨ (b = 255 ∧ 40 ≤ j) ∨ ((b = 256 ∨ b = 257) ∧ 1100 ≤ j) ∨ b = 261) → ¬ RDm b j := fun b j n q => n (by unfold RDm at q; exact q)
    refine h τ4 s4.2.2.2.2 ?_ d4 ⟨fun b j n => ?_, fun b j n1 n2 => ?_⟩
    · exact (f4.1 _ _ (nR _ _ (by omega))).trans ((q23.1 _ _ (by omega)).trans hz)
    · unfold RGm RDm at n
      exact (f4.1 b j (nR _ _ (by omega))).trans ((q23.1 b j (by omega)).trans ((f1.1 b j (ncu _ _ (by omega))).trans (q0.1 b j (by omega))))
    · rw [f4.2.1 b j n1, q23.2, f1.2 b j n2, q0.2]
