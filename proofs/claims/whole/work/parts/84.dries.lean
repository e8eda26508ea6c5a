/-! ===== a law told ===== -/
theorem m_emit0 {Q : TA} {m t E z : Nat} {L : Nat → Int32} {σ : MM} (hz : z < 1100) (h : EM Q m t E L z σ) : wp (FX12_emit 249 0 0) σ (fun _ τ => SM Q m t E τ ∧ τ.1 249 13 = nI (z + 1) ∧ (E = 0 → CMs L z τ) ∧ τ.1 256 (1100 + z) = 0 ∧ eqr Rem σ τ) := by
  obtain ⟨h1, h2, h3⟩ := h
  unfold FX12_emit
  rw [r249_11, r249_12]
  have ei : (1100 : Int32) + nI z = nI (1100 + z) := nI_add 1100 z
  refine ws_gv h2 ?_
  rw [ei]
  refine ws_u (by omega) (by decide) (ws_gv (x := nI z) ((mm_ne (by omega)).trans h2) ?_)
  rw [ei]
  refine ws_u (by omega) (by decide) (ws_gv (x := nI z) ((mm_ne (by omega)).trans ((mm_ne (by omega)).trans h2)) (ws_s (wp_pu ?_)))
  have hq : eqr (fun b j => (b = 249 ∧ j = 13) ∨ ((b = 256 ∨ b = 257) ∧ j = 1100 + z)) σ (up2 (up2 (up2 σ.1 256 (1100 + z) 0) 257 (1100 + z) 0) 249 13 (nI z + 1), σ.2) := eqr_tr (eqr_up (by omega)) (eqr_tr (eqr_up (σ := (up2 σ.1 256 (1100 + z) 0, σ.2)) (by omega)) (eqr_up (σ := (up2 (up2 σ.1 256 (1100 + z) 0) 257 (1100 + z) 0, σ.2)) (by omega)))
  refine ⟨SM_r h1 hq (fun b j z => by omega) h1.2.2.1 ((hq.1 _ _ (by omega)).trans h1.2.2.2.1) ((hq.1 _ _ (by omega)).trans h1.2.2.2.2), mm_at.trans (nI_1 _), fun e k hk => ?_, (mm_ne (by omega)).trans ((mm_ne (by omega)).trans mm_at), eqr_mono hq (fun b j z => by unfold Rem; omega)⟩
  rw [hq.1 256 _ (by omega), hq.1 257 _ (by omega)]
  exact h3 e k hk
def laT (T : TW) (L : Nat → Int32) (z : Nat) : TW := (fun k => if k = 3 then z else T.1 k, fun r => if r = 5 then L else T.2 r)
theorem laT_n {T : TW} {L : Nat → Int32} {z k : Nat} (h : k ≠ 3) : (laT T L z).1 k = T.1 k := if_neg h
theorem laT_r {T : TW} {L : Nat → Int32} {z k : Nat} (h : k ≠ 5) : (laT T L z).2 k = T.2 k := if_neg h
theorem laT_3 {T : TW} {L : Nat → Int32} {z : Nat} : (laT T L z).1 3 = z := rfl
theorem laT_5 {T : TW} {L : Nat → Int32} {z : Nat} : (laT T L z).2 5 = L := rfl
theorem VNa_n {T T2 : TW} {N : NM} (h : ∀ k, k < 3 → T2.1 k = T.1 k) (hV : VNa T N) : VNa T2 N := by
  refine ⟨fun r hr i hi => hV.1 r hr i (by rw [← h r hr]; exact hi), fun r s hr hs i j hi hj he => hV.2 r s hr hs i j (by rw [← h r hr]; exact hi) (by rw [← h s hs]; exact hj) he⟩
theorem MNb_n {l a c : Nat} {T T2 : TW} {N : NM} {σ : MM} (h : ∀ k, k < 3 → T2.1 k = T.1 k) (hN : MNb l a c T N σ) : MNb l a c T2 N σ := by
  obtain ⟨h1, K, h2, h3⟩ := hN
  unfold MNb
  rw [h 0 (by decide), h 1 (by decide), h 2 (by decide)]
  refine ⟨h1, K, fun k hk => ?_, fun r hr i hi => h3 r hr i (by rw [← h r hr]; exact hi)⟩
  obtain ⟨k1, k2, k3, k4⟩ := h2 k hk
  exact ⟨k1, by rw [h _ k1]; exact k2, k3, k4⟩
theorem ps_law {Q : TA} {m : Nat} (vQ : VTa Q) (hm : m ≤ 1000) (hend : yT Q (tp Q m) = 0) : PS Q m 7 (FX8_readLaw 15) (FX12_readLine 249) := by
  intro t T N b hV ht hk
  have disp : ∀ (σ : MM) (P : Unit → MM → Prop), SM Q m t 0 σ → wp (bd (FX12_readDries 249) (fun (_ : Unit) => FX12_takeSign 249 (59 : Int32))) σ P → wp (bd (FX12_readLine 249) (fun (_ : Unit) => FX12_takeSign 249 (59 : Int32))) σ P := by
    intro σ P hS h
    unfold FX12_readLine
    refine bd_asw (wp_eq (m_isWord (k := 0) vQ (by decide) (by decide) hS) ?_)
    rw [wB_x (j := 0) (by decide) (by decide) hk (by decide), if_pos (show b2i (decide ((0 : Nat) = 0) && false) = 0 from rfl)]
    refine bd_asw (bd_asw (wp_eq (m_isWord (k := 2) vQ (by decide) (by decide) hS) ?_))
    rw [wB_x (j := 2) (by decide) (by decide) hk (by decide), if_pos (show b2i (decide ((0 : Nat) = 0) && false) = 0 from rfl)]
    refine bd_asw (wp_eq (m_isWord (k := 4) vQ (by decide) (by decide) hS) ?_)
    rw [wB_x (j := 4) (by decide) (by decide) hk (by decide), if_pos (show b2i (decide ((0 : Nat) = 0) && false) = 0 from rfl)]
    refine bd_asw (wp_eq (m_isWord (k := 6) vQ (by decide) (by decide) hS) ?_)
    rw [wB_x (j := 6) (by decide) (by decide) hk (by decide), if_pos (show b2i (decide ((0 : Nat) = 0) && false) = 0 from rfl)]
    obtain ⟨r, τ, e, q⟩ := h
    refine ⟨r, τ, ?_, q⟩
    rw [← e]
    rw [bd_as]
    rfl
  cases b with
  | true =>
    have n3 := fc_ne (Q := Q) (k := 3) (t := t) (by decide)
    have l3 := fc_lt (t := t) vQ (show 3 < 10 by decide)
    refine ⟨t, fc Q 3 t, T, N, true, ⟨l3, Nat.le_refl _, Nat.le_of_lt ht, fun z => absurd z n3⟩, fun σ hS hD => ?_, fun σ hS hD => ?_⟩
    · unfold FX8_readLaw
      rw [r15_0]
      refine ws_gv hD.2.2.2.2.2.1 ?_
      rw [if_neg (show ¬ b2i true = 0 by decide)]
      refine wp_bd (c_fail (k := 3) (by decide) (by decide) hS) (fun _ τ q => wp_pu ⟨q.1, fun z => absurd z n3, FDc_t q.2⟩)
    · refine disp σ _ hS ?_
      unfold FX12_readDries
      rw [r249_10]
      refine bd_asw (wp_eq (m_isWord (k := 7) vQ (by decide) (by decide) hS) ?_)
      rw [hk, if_neg (show ¬ b2i (decide ((0 : Nat) = 0) && true) = 0 by decide)]
      have e43 : σ.1 255 43 = 0 := by
        rcases hD.2.1 with ⟨h, _⟩ | ⟨_, h, _⟩
        · cases h
        · exact h
      refine bd_asw (bd_asw (ws_a (i := 43) (by decide) (by decide) e43 ?_))
      rw [if_neg (by decide)]
      refine bd_asw (wp_bd (m_wrong (k := 3) vQ (by decide) hS) (fun _ τ q => ?_))
      have hf3 : fE Q 3 t 0 = fc Q 3 t := rfl
      refine wp_eq (show pu () τ = some ((), τ) from rfl) (bd_asw (ws_gv q.1.2.2.2.2 ?_))
      rw [hf3, if_neg (nI_nle (by omega) (by omega))]
      refine wp_eq (show pu () τ = some ((), τ) from rfl) ?_
      refine wp_mono (m_takeSign vQ l3 q.1 59) (fun _ τ2 q2 => ?_)
      rw [st1_d n3] at q2
      exact ⟨q2.1, fun z => absurd z n3, FDm_a (eqr_tr q.2 q2.2)⟩
  | false =>
    obtain ⟨t1, E1, L1, z1, ⟨p1, p2, p3, p4, p5, p6⟩, pC, pM⟩ := px_expr vQ hm hend (k := 10) (by decide) (t + 1) 0 (T.2 5) 0 (by decide) (by omega) (by omega)
    have q3 := st1_m (k := 1) (b := gB Q 59 t1) vQ hend (by decide) (fun h => gB_y h) p3 p1
    obtain ⟨R3, hR3⟩ : ∃ R3, R3 = st1 Q (gB Q 59 t1) 1 t1 E1 := ⟨_, rfl⟩
    rw [← hR3] at q3
    obtain ⟨q31, q32, q33, q34⟩ := q3
    refine ⟨R3.1, R3.2, laT T L1 z1, N, true, ⟨q33, by omega, q31, fun z => ?_⟩, fun σ hS hD => ?_, fun σ hS hD => ?_⟩
    · obtain ⟨z1', z2, z3⟩ := q34 z
      obtain ⟨-, -, v1, v2, v3, v4⟩ := p6 z1'
      obtain ⟨u1, u2⟩ := v4 (show hg L1 0 ≤ 0 from Nat.le_refl 0)
      obtain ⟨⟨⟨a1, a2, a3, a4⟩, a5, a6, a7⟩, h2, h3, h4⟩ := hV
      refine ⟨by omega, ⟨⟨?_, ?_, ?_, ?_⟩, ?_, fun c hc => ?_, fun l hl => ?_⟩, VNa_n (fun k hk => laT_n (by omega)) h2, fun q => absurd q (by decide), fun l hl => ?_⟩
      · rw [laT_n (by decide)]; exact a1
      · rw [laT_n (by decide)]; exact a2
      · rw [laT_n (by decide)]; exact a3
      · rw [laT_3]; omega
      · rw [laT_3, laT_5]
        exact ⟨fun k hk => u1 k (by omega) hk, u2⟩
      · rw [laT_n (by decide)] at hc
        rw [laT_r (by decide), laT_r (by decide)]; exact a6 c hc
      · rw [laT_n (by decide)] at hl
        rw [laT_r (by decide)]; exact a7 l hl
      · rw [laT_n (by decide)] at hl
        rw [laT_r (by decide)]; exact h4 l hl
    · unfold FX8_readLaw
      rw [r15_0, r15_1, r16_8]
      refine ws_gv hD.2.2.2.2.2.1 ?_
      rw [if_pos (show b2i false = 0 from rfl)]
      refine ws_s ?_
      have hq1 : eqr (fun b j => b = 15 ∧ j = 2) σ (up2 σ.1 15 2 1, σ.2) := eqr_up (by omega)
      have e15 : ((up2 σ.1 15 2 1, σ.2) : MM).1 15 2 = 1 := mm_at
      revert hq1 e15
      generalize ((up2 σ.1 15 2 1, σ.2) : MM) = τ1
      intro hq1 e15
      have s1 : SC Q t 0 τ1 := SC_f hS (fun j => hq1.1 _ _ (by omega)) (fun j => hq1.1 _ _ (by omega)) (by rw [hq1.2]) (by rw [hq1.2])
      refine wp_bd (c_adv vQ s1) ?_
      rintro _ τ2 ⟨s2, f2⟩
      refine ws_s ?_
      have hq3 : eqr (fun b j => b = 25 ∧ j = 2) τ2 (up2 τ2.1 25 2 0, τ2.2) := eqr_up (by omega)
      have e25 : ((up2 τ2.1 25 2 0, τ2.2) : MM).1 25 2 = 0 := mm_at
      revert hq3 e25
      generalize ((up2 τ2.1 25 2 0, τ2.2) : MM) = τ3
      intro hq3 e25
      have s3 : SC Q (t + 1) 0 τ3 := SC_f s2 (fun j => hq3.1 _ _ (by omega)) (fun j => hq3.1 _ _ (by omega)) (by rw [hq3.2]) (by rw [hq3.2])
      refine wp_bd (pC τ3 ⟨s3, ⟨0, by decide, e25⟩, fun _ => ⟨e25, fun k hk => by omega⟩⟩) ?_
      rintro _ τ4 ⟨s4, f4⟩
      refine wp_bd (c_expectSign (c := 59) vQ p1 (by decide) (by decide) (by decide) (by decide) s4.1) ?_
      rintro _ τ5 ⟨s5, f5⟩
      rw [← hR3] at s5
      have fr : ∀ b j, ¬ (b = 1 ∨ (b = 15 ∧ j = 2) ∨ (b = 25 ∧ j = 2) ∨ b = 26) → τ5.1 b j = σ.1 b j := fun b j n => by
        rw [f5.1 b j (by omega), f4.1 b j (by omega), hq3.1 b j (by omega), f2.1 b j (by omega), hq1.1 b j (by omega)]
      have fl : ∀ b j, b ≠ 1 → τ5.2.1 b j = σ.2.1 b j := fun b j n => by
        rw [f5.2.2 b j n, f4.2 b j n, hq3.2, f2.2.2 b j n, hq1.2]
      refine wp_pu ⟨s5, fun z => ?_, fun b j n => ?_, fun b j n _ => fl b j n⟩
      · obtain ⟨zz, -, -⟩ := q34 z
        obtain ⟨k1, k2⟩ := s4.2.2 zz
        obtain ⟨⟨a1, a2, a3⟩, a4, a5, a6, ⟨a7, a8⟩, a9, a10⟩ := hD
        refine ⟨⟨?_, ?_, ?_⟩, fun l hl => ?_, fun p hp => ?_, fun c hc => ?_, ⟨?_, fun k hk => ?_⟩, ?_, fun r hr i hi => ?_⟩
        · rw [laT_n (by decide)]; exact (fr _ _ (by omega)).trans a1
        · rw [laT_n (by decide)]; exact (fr _ _ (by omega)).trans a2
        · rw [laT_n (by decide)]; exact (fr _ _ (by omega)).trans a3
        · rw [laT_n (by decide)] at hl
          rw [laT_r (by decide), laT_r (by decide)]
          exact ⟨(fr _ _ (by omega)).trans (a4 l hl).1, (fr _ _ (by omega)).trans (a4 l hl).2⟩
        · rw [laT_n (by decide)] at hp
          rw [laT_r (by decide)]
          exact (fr _ _ (by omega)).trans (a5 p hp)
        · rw [laT_n (by decide)] at hc
          rw [laT_r (by decide), laT_r (by decide)]
          exact ⟨(fr _ _ (by omega)).trans (a6 c hc).1, (fr _ _ (by omega)).trans (a6 c hc).2⟩
        · rw [laT_3]; exact (f5.1 _ _ (by decide)).trans k1
        · rw [laT_3] at hk
          rw [laT_5]; exact (f5.1 _ _ (by decide)).trans (k2 k hk)
        · show τ5.1 15 2 = 1
          rw [f5.1 15 2 (by decide), f4.1 15 2 (by omega), hq3.1 15 2 (by omega), f2.1 15 2 (by decide)]
          exact e15
        · rw [laT_n (by omega)] at hi
          exact (fl _ _ (by omega)).trans (a10 r hr i hi)
      · by_cases z1 : b = 1
        · subst z1
          have : j = 1 := by omega
          subst this
          rw [f5.2.1, f4.1 1 1 (by omega), hq3.1 1 1 (by omega), f2.2.1, hq1.1 1 1 (by omega)]
        · exact fr b j (by omega)
    · refine disp σ _ hS ?_
      unfold FX12_readDries
      rw [r249_10]
      refine bd_asw (wp_eq (m_isWord (k := 7) vQ (by decide) (by decide) hS) ?_)
      rw [hk, if_neg (show ¬ b2i (decide ((0 : Nat) = 0) && true) = 0 by decide)]
      have e43 : σ.1 255 43 = -1 ∧ σ.1 249 13 = 0 := by
        rcases hD.2.1 with ⟨_, h⟩ | ⟨h, _⟩
        · exact h
        · cases h
      refine bd_asw (bd_asw (ws_a (i := 43) (by decide) (by decide) e43.1 ?_))
      rw [if_pos (by decide)]
      refine wp_eq (show pu () σ = some ((), σ) from rfl) (bd_asw (ws_gv hS.2.2.2.2 ?_))
      rw [if_pos (show nI 0 ≤ 0 by decide)]
      obtain ⟨s1, f1⟩ := SM_1 hS ht
      refine bd_asw (ws_gv hS.2.2.2.1 (bd_asw (ws_s ?_)))
      revert s1 f1
      generalize ((up2 σ.1 249 7 (nI t + (1 : Int32)), σ.2) : MM) = τ1
      intro s1 f1
      have hr : ∀ b j, ¬ (b = 249 ∧ (j = 7 ∨ j = 8)) → ¬ Rat b j := fun b j n q => n (by unfold Rat at q; exact q)
      refine bd_asw (ws_gv (x := 0) ((f1.1 _ _ (hr _ _ (by omega))).trans e43.2) (bd_asw (ws_u (i := 43) (by decide) (by decide) ?_)))
      have hq2 : eqr (fun b j => b = 255 ∧ j = 43) τ1 (up2 τ1.1 255 43 0, τ1.2) := eqr_up (by omega)
      have e2 : ((up2 τ1.1 255 43 0, τ1.2) : MM).1 255 43 = 0 := mm_at
      revert hq2 e2
      generalize ((up2 τ1.1 255 43 0, τ1.2) : MM) = τ2
      intro hq2 e2
      have s2 : SM Q m (t + 1) 0 τ2 := SM_r s1 hq2 (fun b j z => by omega) s1.2.2.1 ((hq2.1 _ _ (by omega)).trans s1.2.2.2.1) ((hq2.1 _ _ (by omega)).trans s1.2.2.2.2)
      refine bd_asw (wp_bd (pM τ2 ⟨s2, (hq2.1 _ _ (by omega)).trans ((f1.1 _ _ (hr _ _ (by omega))).trans e43.2), fun _ k hk => by omega⟩) ?_)
      rintro _ τ3 ⟨s3, f3⟩
      refine bd_asw (wp_bd (m_emit0 (by omega) s3) ?_)
      rintro _ τ4 ⟨s4, e13, hcm, e256, f4⟩
      refine wp_eq (show pu () τ4 = some ((), τ4) from rfl) ?_
      refine wp_mono (m_takeSign vQ p1 s4 59) (fun _ τ5 q => ?_)
      rw [← hR3] at q
      obtain ⟨s5, f5⟩ := q
      have hrm : ∀ b j, ¬ ((b = 249 ∧ (j = 7 ∨ j = 8 ∨ j = 13)) ∨ ((b = 256 ∨ b = 257) ∧ 1100 ≤ j)) → ¬ Rem b j := fun b j n q => n (by unfold Rem at q; exact q)
      have f34 := eqr_tr f3 f4
      have fr : ∀ b j, ¬ ((b = 249 ∧ (j = 7 ∨ j = 8 ∨ j = 13)) ∨ ((b = 256 ∨ b = 257) ∧ 1100 ≤ j) ∨ (b = 255 ∧ j = 43)) → τ5.1 b j = σ.1 b j := fun b j n => by
        rw [f5.1 b j (hr _ _ (by omega)), f34.1 b j (hrm _ _ (by omega)), hq2.1 b j (by omega), f1.1 b j (hr _ _ (by omega))]
      have fl : τ5.2 = σ.2 := by rw [f5.2, f34.2, hq2.2, f1.2]
      refine ⟨s5, fun z => ?_, fun b j n => ?_, fun b j n => by rw [fl], by rw [fl]⟩
      · obtain ⟨zz, -, -⟩ := q34 z
        obtain ⟨⟨⟨a1, a2, a3⟩, a4, a5, a6, a7⟩, b1, c1⟩ := hD
        refine ⟨⟨⟨?_, ?_, ?_⟩, fun l hl => ?_, fun p hp => ?_, fun c hc => ?_, fun l k1 k2 => ?_⟩, Or.inr ⟨rfl, ?_, ?_, ?_, ?_⟩, MNb_n (fun k hk => laT_n (by omega)) ?_⟩
        · rw [laT_n (by decide)]; exact (fr _ _ (by omega)).trans a1
        · rw [laT_n (by decide)]; exact (fr _ _ (by omega)).trans a2
        · rw [laT_n (by decide)]; exact (fr _ _ (by omega)).trans a3
        · rw [laT_n (by decide)] at hl
          rw [laT_r (by decide), laT_r (by decide)]
          exact ⟨(fr _ _ (by omega)).trans (a4 l hl).1, (fr _ _ (by omega)).trans (a4 l hl).2⟩
        · rw [laT_n (by decide)] at hp
          rw [laT_r (by decide)]
          exact (fr _ _ (by omega)).trans (a5 p hp)
        · rw [laT_n (by decide)] at hc
          rw [laT_r (by decide), laT_r (by decide)]
          exact ⟨(fr _ _ (by omega)).trans (a6 c hc).1, (fr _ _ (by omega)).trans (a6 c hc).2⟩
        · rw [laT_n (by decide)] at k1
          exact (fr _ _ (by omega)).trans (a7 l k1 k2)
        · rw [f5.1 255 43 (hr _ _ (by omega)), f34.1 255 43 (hrm _ _ (by omega))]; exact e2
        · rw [laT_3]; exact (f5.1 _ _ (hr _ _ (by omega))).trans e13
        · rw [laT_3, laT_5]
          exact CMs_r (fun j => f5.1 _ _ (hr _ _ (by omega))) (fun j => f5.1 _ _ (hr _ _ (by omega))) (hcm zz)
        · rw [laT_3]; exact (f5.1 _ _ (hr _ _ (by omega))).trans e256
        · obtain ⟨m1, K, m2, m3⟩ := c1
          refine ⟨(fr _ _ (by omega)).trans m1, K, fun k hk => ?_, m3⟩
          rw [fl, fr _ _ (by omega)]
          exact m2 k hk
      · unfold RDm at n
        exact fr b j (by omega)
