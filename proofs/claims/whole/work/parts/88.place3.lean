/-! ===== a place told: both ===== -/
def plT (T : TW) (v : Int32) : TW := (inT T 1, up2 T.2 2 (T.1 1) v)
theorem plT_row {T : TW} {v : Int32} {k : Nat} (h : k ≠ 2) : (plT T v).2 k = T.2 k := by
  show up2 T.2 2 (T.1 1) v k = T.2 k
  rw [up2_rw h]
theorem plT_n {T : TW} {v : Int32} {k : Nat} (h : k ≠ 1) : (plT T v).1 k = T.1 k := inT_ne (T := T) (r := 1) h
theorem plT_1 {T : TW} {v : Int32} : (plT T v).1 1 = T.1 1 + 1 := inT_at (T := T) (r := 1)
theorem DV_pl {T : TW} {N : NM} {b : Bool} {w : List Nat} {v : Int32} (hV : DV T N b) (h4 : T.1 1 < 4) (hw : isW w) (hn : ¬ tld T N w) : DV (plT T v) (inW T N 1 w) b := by
  obtain ⟨⟨⟨a1, a2, a3, a4⟩, a5, a6, a7⟩, h2, h3, h4'⟩ := hV
  have r5 : (plT T v).2 5 = T.2 5 := plT_row (by decide)
  have n3 : (plT T v).1 3 = T.1 3 := plT_n (by decide)
  refine ⟨⟨⟨?_, ?_, ?_, ?_⟩, ?_, fun c hc => ?_, fun l hl => ?_⟩, VNa_in (by decide) (Or.inl rfl) hw hn h2, fun q => ?_, fun l hl => ?_⟩
  · rw [plT_n (by decide)]; exact a1
  · rw [plT_1]; omega
  · rw [plT_n (by decide)]; exact a3
  · rw [n3]; exact a4
  · rw [r5, n3]; exact a5
  · rw [plT_n (by decide)] at hc
    rw [plT_row (by decide), plT_row (by decide)]
    exact a6 c hc
  · rw [plT_n (by decide)] at hl
    rw [plT_row (by decide)]
    exact a7 l hl
  · rw [r5, n3]; exact h3 q
  · rw [plT_n (by decide)] at hl
    rw [plT_row (by decide)]
    exact h4' l hl
theorem c_addPlace {Q : TA} {t : Nat} {T : TW} {N : NM} {b : Bool} {w : List Nat} {v : Int32} {σ : MM} (h4 : T.1 1 < 4) (hS : SC Q t 0 σ) (hD : DC T N b σ) : wp (FX7_addPlace 16 (p32 w) v) σ (fun _ τ => SC Q t 0 τ ∧ DC (plT T v) (inW T N 1 w) b τ ∧ FDc σ τ) := by
  obtain ⟨⟨a1, a2, a3⟩, a4, a5, a6, ⟨a7, a8⟩, a9, a10⟩ := hD
  unfold FX7_addPlace
  rw [r16_1, r16_5]
  refine ws_gv a2 ?_
  rw [if_neg (show ¬ (4 : Int32) ≤ nI (T.1 1) from nle_n (b := 4) h4 (by decide))]
  refine bd_asw (ws_gv a2 (bd_asw (ws_uL h4 (by decide) (bd_asw (ws_gv (x := nI (T.1 1)) a2 (bd_asw (ws_u h4 (by decide) (bd_asw (ws_gv (x := nI (T.1 1)) ((mm_ne (by omega)).trans a2) (bd_asw (ws_s ?_)))))))))))
  refine wp_eq (show pu () _ = some ((), _) from rfl) (wp_pu ?_)
  have fq : ∀ b j, ¬ (b = 22 ∧ j = T.1 1) → ¬ (b = 16 ∧ j = 10) → up2 (up2 σ.1 22 (T.1 1) v) 16 10 (nI (T.1 1) + 1) b j = σ.1 b j := fun b j n1 n2 => by rw [up2_ne (by omega), up2_ne (by omega)]
  have fl : ∀ b j, ¬ (b = 18 ∧ j = T.1 1) → up2 σ.2.1 18 (T.1 1) (p32 w) b j = σ.2.1 b j := fun b j n => up2L_ne n
  refine ⟨SC_f hS (fun j => fq 1 j (by omega) (by omega)) (fun j => fq 2 j (by omega) (by omega)) (fl 1 4 (by omega)) rfl, ⟨⟨?_, ?_, ?_⟩, fun l hl => ?_, fun p hp => ?_, fun c hc => ?_, ⟨?_, fun k hk => ?_⟩, ?_, fun r hr i hi => ?_⟩, fun b j n => fq b j (by omega) (by omega), fun b j n n2 => fl b j (by omega)⟩
  · rw [plT_n (by decide)]; exact (fq 16 9 (by omega) (by omega)).trans a1
  · rw [plT_1]; exact mm_at.trans (nI_1 _)
  · rw [plT_n (by decide)]; exact (fq 16 11 (by omega) (by omega)).trans a3
  · rw [plT_n (by decide)] at hl
    rw [plT_row (by decide), plT_row (by decide)]
    exact ⟨(fq 20 l (by omega) (by omega)).trans (a4 l hl).1, (fq 21 l (by omega) (by omega)).trans (a4 l hl).2⟩
  · rw [plT_1] at hp
    show up2 (up2 σ.1 22 (T.1 1) v) 16 10 (nI (T.1 1) + 1) 22 p = up2 T.2 2 (T.1 1) v 2 p
    by_cases z : p = T.1 1
    · subst z
      rw [up2_ne (by omega), up2_at, up2_at]
    · rw [fq 22 p (by omega) (by omega), up2_ne (by omega)]
      exact a5 p (by omega)
  · rw [plT_n (by decide)] at hc
    rw [plT_row (by decide), plT_row (by decide)]
    exact ⟨(fq 23 c (by omega) (by omega)).trans (a6 c hc).1, (fq 24 c (by omega) (by omega)).trans (a6 c hc).2⟩
  · rw [plT_n (by decide)]; exact (fq 25 2 (by omega) (by omega)).trans a7
  · rw [plT_n (by decide)] at hk
    rw [plT_row (by decide)]
    exact (fq 26 k (by omega) (by omega)).trans (a8 k hk)
  · exact (fq 15 2 (by omega) (by omega)).trans a9
  · show up2 σ.2.1 18 (T.1 1) (p32 w) (17 + r) i = p32 (inW T N 1 w r i)
    have hi : i < inT T 1 r := hi
    rcases inT_c hi with ⟨rfl, rfl⟩ | ⟨q1, q2⟩
    · rw [inW_at]; exact up2L_at
    · rw [inW_ne q2, fl _ _ (by omega)]
      exact a10 r hr i q1
theorem m_pl {T : TW} {N : NM} {b : Bool} {w : List Nat} {v : Int32} {σ τ : MM} (h05 : T.1 0 ≤ 5) (h14 : T.1 1 < 4) (hD : DM T N b σ) (h : HdM T N 1 w σ τ) : DM (plT T v) (inW T N 1 w) b (up2 τ.1 255 (54 + T.1 1) v, τ.2) := by
  obtain ⟨⟨⟨a1, a2, a3⟩, a4, a5, a6, a7⟩, b1, c1⟩ := hD
  obtain ⟨h1, h2, h3, h4, h5', h6'⟩ := h
  have hq : eqr (fun b j => b = 255 ∧ j = 54 + T.1 1) τ (up2 τ.1 255 (54 + T.1 1) v, τ.2) := eqr_up (by omega)
  have fq : ∀ j, j ≠ 54 + T.1 1 → j ≠ 41 → up2 τ.1 255 (54 + T.1 1) v 255 j = σ.1 255 j := fun j n1 n2 => (up2_ne (by omega)).trans (h2 j (by omega))
  have fx : ∀ b j, b ≠ 255 → up2 τ.1 255 (54 + T.1 1) v b j = τ.1 b j := fun b j n => up2_ne (by omega)
  refine ⟨⟨⟨?_, ?_, ?_⟩, fun l hl => ?_, fun p hp => ?_, fun c hc => ?_, fun l k1 k2 => ?_⟩, DMl_e (σ := σ) (fq 43 (by omega) (by omega)) ((fx 249 13 (by decide)).trans h4) (fun j => (fx 256 j (by decide)).trans (h5' j)) (fun j => (fx 257 j (by decide)).trans (h6' j)) ?_, MNb_a hq (by omega) (fun j => by omega) (h3 (plT T v) (fun k _ => rfl))⟩
  · rw [plT_n (by decide)]; exact (fq 40 (by omega) (by omega)).trans a1
  · rw [plT_1]; exact (mm_ne (by omega)).trans h1
  · rw [plT_n (by decide)]; exact (fq 42 (by omega) (by omega)).trans a3
  · rw [plT_n (by decide)] at hl
    rw [plT_row (by decide), plT_row (by decide)]
    exact ⟨(fq _ (by omega) (by omega)).trans (a4 l hl).1, (fq _ (by omega) (by omega)).trans (a4 l hl).2⟩
  · rw [plT_1] at hp
    show up2 τ.1 255 (54 + T.1 1) v 255 (54 + p) = up2 T.2 2 (T.1 1) v 2 p
    by_cases z : p = T.1 1
    · subst z
      rw [up2_at, up2_at]
    · rw [fq _ (by omega) (by omega), up2_ne (by omega)]
      exact a5 p (by omega)
  · rw [plT_n (by decide)] at hc
    rw [plT_row (by decide), plT_row (by decide)]
    exact ⟨(fq _ (by omega) (by omega)).trans (a6 c hc).1, (fq _ (by omega) (by omega)).trans (a6 c hc).2⟩
  · rw [plT_n (by decide)] at k1
    exact (fq _ (by omega) (by omega)).trans (a7 l k1 k2)
  · unfold DMl
    rw [plT_n (by decide), plT_row (by decide)]
    exact b1
theorem ps_place {Q : TA} {m : Nat} (vQ : VTa Q) (hm : m ≤ 1000) (hend : yT Q (tp Q m) = 0) : PS Q m 2 (FX8_readPlace 15) (FX12_readLine 249) := by
  intro t T N b hV ht hk
  have h05 := hV.1.1.1
  have h14 := hV.1.1.2.1
  obtain ⟨R, hR⟩ := hd_ex Q T N (decide (T.1 1 = 4)) t
  obtain ⟨r1, r2, r3, r4⟩ := hd_E vQ hR
  have r5 := hd_m hend ht hR
  have q1 := st1_m (k := 1) (b := wB Q 3 R.1) vQ hend (by decide) (fun h => wB_y h) r5 r1
  obtain ⟨R1, hR1⟩ : ∃ R1, R1 = st1 Q (wB Q 3 R.1) 1 R.1 R.2 := ⟨_, rfl⟩
  rw [← hR1] at q1
  obtain ⟨q11, q12, q13, q14⟩ := q1
  obtain ⟨L, hL⟩ := lk_ex Q (N 0) (T.1 0) R1.1 R1.2
  obtain ⟨W, hW⟩ := lo_ex (H := 0) hL
  obtain ⟨u1, u2, u3, u4, u5, u6⟩ := lo_m vQ hend q11 q13 h05 (by decide) hL hW
  have hFU := FU_ge
  obtain ⟨T2, N2, hT2, hT3⟩ : ∃ (T2 : TW) (N2 : NM), (T2.1 0 = T.1 0 ∧ N2 0 = N 0 ∧ T2.1 1 ≤ 4 ∧ T2.1 2 ≤ 6 ∧ VNa T2 N2) ∧ (R.2 = 0 → T2 = plT T 0 ∧ N2 = inW T N 1 (wT Q (tp Q (t + 1)))) := by
    by_cases z : R.2 = 0
    · obtain ⟨w0, w1, w2, w3, -⟩ := r4 z
      have w0 : ¬ T.1 1 = 4 := by simpa using w0
      have hD := DV_pl (v := 0) hV (by omega) w1 w2
      exact ⟨plT T 0, inW T N 1 (wT Q (tp Q (t + 1))), ⟨plT_n (by decide), funext (fun i => inW_ne (by omega)), hD.1.1.2.1, hD.1.1.2.2.1, hD.2.1⟩, fun _ => ⟨rfl, rfl⟩⟩
    · exact ⟨T, N, ⟨rfl, rfl, h14, hV.1.1.2.2.1, hV.2.1⟩, fun q => absurd q z⟩
  obtain ⟨t', Ec, Em, H', ⟨p1, p2, p3, p4, p5, p6⟩, pC, pM⟩ := pl_loop vQ hm hend hV hT2 5 W.1 W.2.1 W.2.2 0 u3 u1 u4 (fun z => by
    obtain ⟨-, -, i, k3, k4, k5, k6⟩ := u5 z
    have hb := bt5 0 (by decide) i (by omega)
    rw [k6]
    exact ⟨hb.2.2.2.2.1, by rw [show (W.1 + 0, 0, orB 0 i).2.2 = orB 0 i from rfl] <;> (show 0 + 1 ≤ pc5 (orB 0 i); rw [hb.2.2.2.1 k5]; omega)⟩) (by decide) (by omega)
  have q3 := st1_m (k := 1) (b := gB Q 59 t') vQ hend (by decide) (fun h => gB_y h) p4 p1
  have q3m := st1_m (k := 1) (b := gB Q 59 t') vQ hend (by decide) (fun h => gB_y h) p4 p2
  rw [← p5] at q3m
  obtain ⟨R3, hR3⟩ : ∃ R3, R3 = st1 Q (gB Q 59 t') 1 t' Ec := ⟨_, rfl⟩
  rw [← hR3] at q3 q3m p5
  obtain ⟨q31, q32, q33, q34⟩ := q3
  have live : R3.2 = 0 → Ec = 0 ∧ Em = 0 ∧ R.2 = 0 ∧ T.1 1 < 4 := by
    intro z
    obtain ⟨z1, -, -⟩ := q34 z
    obtain ⟨z2, -, -⟩ := q3m.2.2.2 z
    have z3 := p6 z1
    have z4 := (u5 z3).1
    obtain ⟨z5, -, -⟩ := q14 z4
    have := (r4 z5).1
    have : ¬ T.1 1 = 4 := by simpa using this
    exact ⟨z1, z2, z5, by omega⟩
  refine ⟨R3.1, R3.2, plT T (nI H'), inW T N 1 (wT Q (tp Q (t + 1))), b, ⟨q33, by omega, q31, fun z => ?_⟩, fun σ hS hD => ?_, fun σ hS hD => ?_⟩
  · obtain ⟨z1, z2, z3, z4⟩ := live z
    obtain ⟨-, w1, w2, w3, -⟩ := r4 z3
    exact ⟨by omega, DV_pl hV z4 w1 w2⟩
  · unfold FX8_readPlace
    rw [r15_0, r15_1]
    refine c_full (r := 1) (mx := 4) hD.1.2.1 h14 (by decide) (c_head vQ hV hS hD hR (fun x τ1 s1 f1 hx => ?_))
    refine wp_bd (c_expectWord vQ r1 (3 : Fin 23) s1) ?_
    rintro _ τ2 ⟨s2, f2⟩
    rw [show (3 : Fin 23).val = 3 from rfl, ← hR1] at s2
    have hD2 := DC_t (FT_tr f1 f2) hD
    refine wp_bd (c_lineOutside (H := 0) vQ hV q13 (by decide) s2 hD2.2.2.2.2.2.2 hD2.1.1 hL hW) ?_
    rintro y τ3 ⟨hy, -, s3, f3⟩
    have hy2 : y = nI W.2.2 := by
      rw [← hy]
      show y = 0 ||| y
      simp
    rw [hy2]
    have hD3 := DC_t f3 hD2
    refine wp_bd (pC τ3 FU (by omega) s3 hD3.2.2.2.2.2.2 hD3.1.1) ?_
    rintro v τ4 ⟨rfl, s4, f4⟩
    refine wp_bd (c_expectSign (c := 59) vQ p1 (by decide) (by decide) (by decide) (by decide) s4) ?_
    rintro _ τ5 ⟨s5, f5⟩
    rw [← hR3] at s5
    refine ws_gv s5.2.1 ?_
    have f := FT_tr (FT_tr f1 f2) (FT_tr f3 (FT_tr f4 f5))
    by_cases z : R3.2 = 0
    · obtain ⟨z1, z2, z3, z4⟩ := live z
      rw [if_pos (show nI R3.2 = 0 by rw [z]; rfl), hx z3]
      rw [z] at s5
      refine bd_asw (wp_bd (c_addPlace z4 s5 (DC_t f hD)) (fun _ τ6 q => ?_))
      refine wp_eq (show pu () τ6 = some ((), τ6) from rfl) (wp_pu ?_)
      rw [z]
      exact ⟨q.1, fun _ => q.2.1, FDc_tr (FDc_t f) q.2.2⟩
    · rw [if_neg (nI_ne0 (by omega) (by omega))]
      exact wp_eq (show pu () τ5 = some ((), τ5) from rfl) (wp_pu ⟨s5, fun h => absurd h z, FDc_t f⟩)
  · unfold FX12_readLine FX12_readPlace
    rw [r249_10, r249_4]
    refine bd_asw (wp_eq (m_isWord (k := 0) vQ (by decide) (by decide) hS) ?_)
    rw [wB_x (j := 0) (by decide) (by decide) hk (by decide), if_pos (show b2i (decide ((0 : Nat) = 0) && false) = 0 from rfl)]
    refine bd_asw (bd_asw (wp_eq (m_isWord (k := 2) vQ (by decide) (by decide) hS) ?_))
    rw [hk, if_neg (show ¬ b2i (decide ((0 : Nat) = 0) && true) = 0 by decide)]
    refine bd_asw (bd_asw (ws_a (i := 41) (by decide) (by decide) hD.1.1.2.1 ?_))
    rw [lt_eq]
    refine bd_asw (wp_bd (m_readName (r := 1) (mx := 4) vQ hV (Or.inr (Or.inl ⟨rfl, rfl⟩)) rfl ht hS hD hR) ?_)
    rintro _ τ1 ⟨s1, f1, g1⟩
    refine bd_asw (wp_bd (m_takeWord (k := 3) vQ r1 (by decide) s1) ?_)
    rintro _ τ2 ⟨s2, f2⟩
    rw [← hR1] at s2
    have hr : ∀ b j, ¬ (b = 249 ∧ (j = 7 ∨ j = 8)) → ¬ Rat b j := fun b j n q => n (by unfold Rat at q; exact q)
    have hN2 : R1.2 = 0 → MNb 259 261 19 T2 N2 τ2 := by
      intro z
      obtain ⟨z1, -, -⟩ := q14 z
      obtain ⟨e1, e2⟩ := hT3 z1
      rw [e1, e2]
      exact (HdM_a f2 (g1 z1)).2.2.1 (plT T 0) (fun k _ => rfl)
    have loopM : wp (it plM FU 0) τ2 (fun x τ => x = nI H' ∧ SM Q m t' Em τ ∧ eqr Rat τ2 τ) := by
      by_cases z : R1.2 = 0
      · obtain ⟨FN, e1, e2⟩ := FU_s
        rw [e1]
        rw [z] at s2 hL
        refine it_s ?_
        unfold plM
        refine ws_gv s2.2.2.2.2 ?_
        rw [if_pos (show nI 0 = 0 from rfl), jn_eq, if_pos rfl]
        refine wp_mono (m_plJ (H := 0) vQ hend hV hT2 (by decide) s2 (hN2 z) hL hW) ?_
        rintro x τ ⟨rfl, s3, f3⟩
        refine Or.inl ⟨_, rfl, ?_⟩
        exact wp_mono (pM τ FN (by omega) s3 (fun _ => MNb_a f3 (hr _ _ (by omega)) (fun j => hr _ _ (by omega)) (hN2 z))) (fun x υ q => ⟨q.1, q.2.1, eqr_tr f3 q.2.2⟩)
      · have hWd : W = (R1.1, R1.2, 0) := by
          rcases hL with ⟨rfl, h⟩ | ⟨_, h1, _⟩ | ⟨_, h1, _⟩ | ⟨i, _, _, h1, _⟩
          · rcases hW with ⟨_, hW⟩ | ⟨i, h1, _⟩
            · exact hW
            · cases h1
          · exact absurd h1 z
          · exact absurd h1 z
          · exact absurd h1 z
        rw [hWd] at pM
        exact pM τ2 FU (by omega) s2 (fun q => absurd q z)
    refine bd_asw (wp_bd loopM ?_)
    rintro v τ3 ⟨rfl, s3, f3⟩
    refine bd_asw (ws_gv s3.2.2.2.2 ?_)
    have fr := eqr_tr f2 f3
    have f := FDm_tr f1 (FDm_a fr)
    by_cases z : Em = 0
    · rw [if_pos (show nI Em = 0 by rw [z]; rfl)]
      rw [show (54 : Int32) + nI (T.1 1) = nI (54 + T.1 1) from nI_add 54 _]
      refine bd_asw (bd_asw (ws_u (by omega) (by decide) ?_))
      refine wp_eq (show pu () _ = some ((), _) from rfl) (wp_eq (show pu () _ = some ((), _) from rfl) (wp_eq (show pu () _ = some ((), _) from rfl) ?_))
      have hq : eqr (fun b j => b = 255 ∧ 40 ≤ j) τ3 (up2 τ3.1 255 (54 + T.1 1) (nI H'), τ3.2) := eqr_up (by omega)
      have s4 : SM Q m t' Em (up2 τ3.1 255 (54 + T.1 1) (nI H'), τ3.2) := SM_r s3 hq (fun b j z => by omega) s3.2.2.1 ((hq.1 _ _ (by omega)).trans s3.2.2.2.1) ((hq.1 _ _ (by omega)).trans s3.2.2.2.2)
      refine wp_mono (m_takeSign vQ p2 s4 59) (fun _ τ5 q => ?_)
      rw [← p5] at q
      exact ⟨q.1, fun h => DM_a q.2 (m_pl h05 (live h).2.2.2 hD (HdM_a fr (g1 (live h).2.2.1))), FDm_tr f (FDm_tr (FDm_r hq (fun b j z => by unfold RDm; omega)) (FDm_a q.2))⟩
    · rw [if_neg (nI_ne0 (by omega) (by omega))]
      refine bd_asw (wp_eq (show pu () τ3 = some ((), τ3) from rfl) (wp_eq (show pu () τ3 = some ((), τ3) from rfl) (wp_eq (show pu () τ3 = some ((), τ3) from rfl) ?_)))
      refine wp_mono (m_takeSign vQ p2 s3 59) (fun _ τ5 q => ?_)
      rw [← p5] at q
      exact ⟨q.1, fun h => absurd (live h).2.1 z, FDm_tr f (FDm_a q.2)⟩
