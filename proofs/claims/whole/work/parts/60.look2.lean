/-! ===== pairs, look: the model ===== -/
theorem mt_hungFor {T : TW} {S : SK} {σ : MM} {c l h : Nat} (hV : VTn T) (hT : MTn T σ) (hS : MSk T 0 S σ) (hv : VSk T S) (hc : c < T.1 2) (hl : l < T.1 0) (hh : h ≤ 12) : wp (FX12_hungFor 249 (nI c) (nI l) (nI h)) σ (fun _ υ => TrM T σ (pnS T (puS S c (nI l) 1) h) υ) := by
  have v6 := hV.1.2.2.1
  unfold FX12_hungFor
  refine wp_bd (mt_tries v6 eqr_rf hS) ?_
  intro _ τ1 h1
  obtain ⟨τ2, e2, g1, g2⟩ := ms_hangs (b := 882) (l := nI l) (k := 1) v6 okBt h1.1 hc
  refine wp_eq e2 ?_
  have h2 : TrM T σ (puS S c (nI l) 1) τ2 := ⟨g1, eqr_tr h1.2 (eqr_mono g2 (fun b j z => by unfold RtM; omega))⟩
  refine wp_bd (mt_runs hV hT (VSk_p1 hv hl) (by omega) h2) ?_
  intro _ τ3 h3
  exact wp_pu h3
theorem mt_isTold {T : TW} {S : SK} {D : TO} {σ : MM} {c l : Nat} (hV : VTn T) (hT : MTn T σ) (hS : MSk T 0 S σ) (hv : VSk T S) (vD : VTo T D) (hD : MTo 0 D σ) (hc : c < T.1 2) (hl : l < T.1 0) : wp (FX12_isTold 249 (nI c) (nI l)) σ (fun r υ => r = prB T S D c l ∧ eqr RtM σ υ) := by
  have v6 := hV.1.2.2.1
  have v4 := hV.1.2.1
  have vn := vD.1
  unfold FX12_isTold
  rw [r249_23]
  have em : FX12_mayHang 249 (0 : Int32) (nI c) (nI l) (1 : Int32) σ = some (decide (S 1 c = -1) && decide (¬ frS T S l < 1), σ) := ms_mayHang (b := 0) hV hT okB0 hS hv hc hl 1
  refine wp_eq em ?_
  rw [lt_eq]
  have epr : prB T S D c l = ((decide (S 1 c = -1) && decide (¬ frS T S l < 1)) && ptD T (puS S c (nI l) 1) D) := by unfold prB; rw [Bool.and_assoc]
  rw [epr]
  generalize (decide (S 1 c = -1) && decide (¬ frS T S l < 1)) = m0
  unfold ptD
  refine ws_it (fun k s τ => s = (b2i (m0 && alF (tdP T (puS S c (nI l) 1) D) k), nI k) ∧ eqr RtM σ τ) D.1 (by omega) ⟨by simp [alF]; rfl, eqr_rf⟩ ?_
  rintro k s τ hk ⟨rfl, hq⟩
  have nR : ∀ {j : Nat}, j < 882 → ¬ RtM 265 j := fun h q => by unfold RtM at q; omega
  have hD2 : MTo 0 D τ := MTo_r hq vn (fun j _ h => nR (by omega)) hD
  have hn : τ.1 265 23 = nI D.1 := hD2.1
  refine ws_a (i := 23) (by decide) (by decide) hn ?_
  by_cases hkn : k < D.1
  · rw [if_neg (nle_n hkn (by omega))]
    cases hb : (m0 && alF (tdP T (puS S c (nI l) 1) D) k) with
    | false =>
      rw [if_pos (show b2i false = 0 from rfl)]
      refine wp_pu (Or.inr ⟨_, rfl, ws_z (b := false) ⟨?_, hq⟩⟩)
      cases m0 with
      | false => rfl
      | true => rw [Bool.true_and] at hb ⊢; exact (al_m (by omega) hb).symm
    | true =>
      rw [if_neg (show ¬ b2i true = 0 by decide), lt_eq]
      have i0 : (24 : Int32) + (3 : Int32) * nI k = nI (0 + 24 + 3 * k) := by rw [show (3 : Int32) = nI 3 from rfl, pk_mul]; exact nI_add 24 _
      have i1 : nI (0 + 24 + 3 * k) + (1 : Int32) = nI (0 + 25 + 3 * k) := by rw [nI_1]; congr 1; omega
      have i2 : nI (0 + 24 + 3 * k) + (2 : Int32) = nI (0 + 26 + 3 * k) := by rw [show (2 : Int32) = nI 2 from rfl, nI_add]; congr 1; omega
      show wp (bd (aI 265 966 ((24 : Int32) + (3 : Int32) * nI k + (1 : Int32))) (fun x6 => bd (FX12_hungFor 249 (nI c) (nI l) x6) (fun (_ : Unit) => bd (aI 265 966 ((24 : Int32) + (3 : Int32) * nI k)) (fun x8 => bd (FX12_weatherOf 249 (882 : Int32) x8) (fun x9 => bd (aI 265 966 ((24 : Int32) + (3 : Int32) * nI k + (2 : Int32))) _))))) τ _
      rw [i0, i1, i2]
      obtain ⟨d0, d1, d2⟩ := hD2.2 k hkn
      obtain ⟨⟨p, hp, ep⟩, ⟨j, hj, ej⟩, -⟩ := vD.2 k hkn
      refine ws_a (by omega) (by decide) (d1.trans ej) ?_
      refine wp_bd (mt_hungFor hV (tm_T hq hT) (tm_S v6 hq hS) hv hc hl hj) ?_
      intro _ τ1 h1
      refine ws_a (by omega) (by decide) ((h1.2.1 _ _ (nR (by omega))).trans (d0.trans ep)) ?_
      refine wp_eq (mt_weather hV (tm_T hq hT) (VSk_pn (VSk_p1 hv hl) j) h1 hp) ?_
      refine ws_a (by omega) (by decide) ((h1.2.1 _ _ (nR (by omega))).trans d2) ?_
      have et : tdP T (puS S c (nI l) 1) D k = decide (weS T (pnS T (puS S c (nI l) 1) j) p = D.2 2 k) := by
        unfold tdP
        rw [ej, ep, cl_n (by omega), cl_n (by omega)]
      have es : (m0 && alF (tdP T (puS S c (nI l) 1) D) (k + 1)) = decide (weS T (pnS T (puS S c (nI l) 1) j) p = D.2 2 k) := by
        show (m0 && (alF (tdP T (puS S c (nI l) 1) D) k && tdP T (puS S c (nI l) 1) D k)) = _
        rw [← Bool.and_assoc, hb, et, Bool.true_and]
      refine wp_eq (x := b2i (decide (weS T (pnS T (puS S c (nI l) 1) j) p = D.2 2 k))) (τ := τ1) ?_ ?_
      · by_cases z : weS T (pnS T (puS S c (nI l) 1) j) p = D.2 2 k <;> simp [z, pu, b2i]
      rw [lt_eq]
      exact wp_pu (Or.inl ⟨_, rfl, hkn, by rw [es, nI_1], eqr_tr hq h1.2⟩)
  · have : k = D.1 := by omega
    rw [if_pos (nI_le (by omega) (by omega))]
    exact wp_pu (Or.inr ⟨_, rfl, ws_z ⟨by rw [this], hq⟩⟩)
theorem m_pairs {A : AB} {σ : MM} (hV : VA A) (hA : MA A σ) (x : Int32) : wp (FX12_pairs 249 x) σ (fun r τ => r = paR A x ∧ MA A τ ∧ ofM σ τ) := by
  have v5 := hV.1.1.1
  have v6 := hV.1.1.2.2.1
  unfold FX12_pairs
  refine mq_w hV hA (R := RtM) (fun σ hA => ?_) RtM_sc
  unfold paR
  refine wp_eq (ms_within x 0 2 σ) ?_
  by_cases w : (decide (¬ x < 0) && decide (¬ 2 < x)) = true
  · rw [if_pos w, if_neg (bt w)]
    unfold paX
    generalize hst : st3 A.1 A.2.1.1 A.2.1.2.2 = st
    have nR : ∀ {j : Nat}, j < 882 → ¬ RtM 265 j := fun h q => by unfold RtM at q; omega
    refine ws_it (fun c s τ => s = ((fo2 st (A.1.1 0) (0, 0, 0) c).1, (fo2 st (A.1.1 0) (0, 0, 0) c).2.1, (fo2 st (A.1.1 0) (0, 0, 0) c).2.2, nI c) ∧ eqr RtM σ τ) (A.1.1 2) (by omega) ⟨rfl, eqr_rf⟩ ?_
    rintro c s τ hc ⟨rfl, hq⟩
    refine wp_eq (ms_cloths (tm_T hq hA.1)) ?_
    by_cases hcn : c < A.1.1 2
    · rw [if_neg (nle_n hcn (by omega))]
      refine ws_it (fun l s υ => s = ((fi2 st c (fo2 st (A.1.1 0) (0, 0, 0) c) l).1, (fi2 st c (fo2 st (A.1.1 0) (0, 0, 0) c) l).2.1, (fi2 st c (fo2 st (A.1.1 0) (0, 0, 0) c) l).2.2, nI l) ∧ eqr RtM σ υ) (A.1.1 0) (by omega) ⟨rfl, hq⟩ ?_
      rintro l s υ hl ⟨rfl, hq2⟩
      refine wp_eq (ms_lines (tm_T hq2 hA.1)) ?_
      by_cases hln : l < A.1.1 0
      · rw [if_neg (nle_n hln (by omega))]
        refine wp_bd (mt_isTold hV.1 (tm_T hq2 hA.1) (tm_S v6 hq2 hA.2.1.1) hV.2.1.1 hV.2.1.2.2 (MTo_r hq2 hV.2.1.2.2.1 (fun j _ h => nR (by omega)) hA.2.1.2.2) hcn hln) ?_
        rintro r ω ⟨rfl, hq3⟩
        have hq4 := eqr_tr hq2 hq3
        have es : fi2 st c (fo2 st (A.1.1 0) (0, 0, 0) c) (l + 1) = (if prB A.1 A.2.1.1 A.2.1.2.2 c l = true then ((fi2 st c (fo2 st (A.1.1 0) (0, 0, 0) c) l).1 + 1, (fi2 st c (fo2 st (A.1.1 0) (0, 0, 0) c) l).2.1 ||| ((1 : Int32) <<< (nI c &&& 31)), (fi2 st c (fo2 st (A.1.1 0) (0, 0, 0) c) l).2.2 ||| ((1 : Int32) <<< (nI l &&& 31))) else fi2 st c (fo2 st (A.1.1 0) (0, 0, 0) c) l) := by
          show st c l (fi2 st c (fo2 st (A.1.1 0) (0, 0, 0) c) l) = _
          rw [← hst]
          rfl
        cases hb : prB A.1 A.2.1.1 A.2.1.2.2 c l with
        | false =>
          rw [hb, if_neg (by decide)] at es
          rw [if_pos (show b2i false = 0 from rfl)]
          refine wp_eq (show pu _ ω = some (_, ω) from rfl) ?_
          rw [lt_eq]
          exact wp_pu (Or.inl ⟨_, rfl, hln, by rw [es, nI_1], hq4⟩)
        | true =>
          rw [hb, if_pos rfl] at es
          rw [if_neg (show ¬ b2i true = 0 by decide)]
          rw [lt_eq, lt_eq, lt_eq]
          refine wp_eq (show pu _ ω = some (_, ω) from rfl) ?_
          rw [lt_eq]
          exact wp_pu (Or.inl ⟨_, rfl, hln, by rw [es, nI_1], hq4⟩)
      · have : l = A.1.1 0 := by omega
        rw [if_pos (nI_le (by omega) (by omega))]
        refine wp_pu (Or.inr ⟨_, rfl, ?_⟩)
        rw [lt_eq]
        refine wp_pu (Or.inl ⟨_, rfl, hcn, ?_, hq2⟩)
        rw [this, nI_1]
        rfl
    · have : c = A.1.1 2 := by omega
      rw [if_pos (nI_le (by omega) (by omega))]
      refine wp_pu (Or.inr ⟨_, rfl, ?_⟩)
      rw [this]
      by_cases x0 : x = 0
      · rw [if_pos x0, if_pos x0]
        exact wp_eq (show pu _ τ = some (_, τ) from rfl) (wp_pu ⟨rfl, hq⟩)
      · rw [if_neg x0, if_neg x0]
        by_cases x1 : x = 1
        · rw [if_pos x1, if_pos x1]
          exact wp_eq (show pu _ τ = some (_, τ) from rfl) (wp_pu ⟨rfl, hq⟩)
        · rw [if_neg x1, if_neg x1]
          exact wp_eq (show pu _ τ = some (_, τ) from rfl) (wp_pu ⟨rfl, hq⟩)
  · rw [if_neg w, if_pos (bf w)]
    exact wp_pu ⟨rfl, eqr_rf⟩
theorem ok_19 {σ : MM} (h : Inv σ) (q : Nat → Int32) : okC (fun chk => TL_19 chk q) σ := by
  obtain ⟨A, hV, hC, hM⟩ := h
  exact okC_of (eq := fun x y => x = y) rfl hV hV hM (cq_w hC (c_pairs hV hC (q 1)) RpC_sc) (fun τ hM => m_pairs hV hM (q 1))
def RlM (b j : Nat) : Prop := RtM b j ∨ b = 269
theorem RlM_sc (b j : Nat) (h : RlM b j) : 249 ≤ b ∧ scM b j := by unfold RlM RtM at h; unfold scM; omega
theorem RlM_no {b j : Nat} (h : ¬ (b = 263 ∨ b = 264 ∨ (b = 265 ∧ 882 ≤ j) ∨ b = 269)) : ¬ RlM b j := fun q => by unfold RlM RtM at q; omega
def PMr (T : TW) (Y : Nat → Nat → Int32) (τ : MM) : Prop := ∀ p, p < T.1 1 → ∀ k, k < 5 → τ.1 269 (5 * p + k) = Y p k
theorem PMr_r {T : TW} {Y : Nat → Nat → Int32} {σ τ : MM} (h : eqr RtM σ τ) (hP : PMr T Y σ) : PMr T Y τ := fun p hp k hk => (h.1 _ _ (fun q => by unfold RtM at q; omega)).trans (hP p hp k hk)
theorem m_look {A : AB} {σ : MM} (hV : VA A) (hA : MA A σ) (x : Int32) : wp (FX12_look 249 x) σ (fun r τ => r = loR A x ∧ MA A τ ∧ ofM σ τ) := by
  have v5 := hV.1.1.1
  have v4 := hV.1.1.2.1
  have v6 := hV.1.1.2.2.1
  unfold FX12_look
  refine mq_w hV hA (R := RlM) (fun σ hA => ?_) RlM_sc
  unfold loR
  rw [r249_29]
  refine wp_eq (ms_within x 0 12 σ) ?_
  by_cases w : (decide (¬ x < 0) && decide (¬ 12 < x)) = true
  · rw [if_pos w, if_neg (bt w)]
    obtain ⟨a, ha, rfl⟩ := wi_ex (n := 12) rfl w
    rw [cl_n (by omega)]
    have lT : ∀ {τ : MM}, eqr RlM σ τ → MTn A.1 τ := fun h => MTn_r h (fun b j _ _ => RlM_no (by omega)) hA.1
    have lS : ∀ {τ : MM}, eqr RlM σ τ → MSk A.1 0 A.2.1.1 τ := fun h => MSk_r h v6 (fun j _ _ => RlM_no (by omega)) hA.2.1.1
    have lD : ∀ {τ : MM}, eqr RlM σ τ → MTo 0 A.2.1.2.2 τ := fun h => MTo_r h hV.2.1.2.2.1 (fun j _ _ => RlM_no (by omega)) hA.2.1.2.2
    refine ws_it (fun k s τ => s = nI k ∧ eqr RlM σ τ ∧ ∀ j, j < k → τ.1 269 j = 0) 20 (by decide) ⟨rfl, eqr_rf, fun j hj => by omega⟩ ?_
    rintro k s τ hk ⟨rfl, hq0, hz⟩
    by_cases hkn : k < 20
    · rw [if_neg (show ¬ (20 : Int32) ≤ nI k from nle_n hkn (by decide))]
      refine ws_u hkn (by decide) ?_
      rw [lt_eq]
      refine wp_pu (Or.inl ⟨_, rfl, hkn, nI_1 k, eqr_tr hq0 (eqr_up (Or.inr rfl)), fun j hj => ?_⟩)
      by_cases z : j = k
      · subst z; exact mm_at
      · exact (mm_ne (by omega)).trans (hz j (by omega))
    rw [if_pos (show (20 : Int32) ≤ nI k from nI_le (a := 20) (by omega) (by omega))]
    refine wp_pu (Or.inr ⟨_, rfl, ?_⟩)
    unfold paX paY
    generalize hst : st3 A.1 A.2.1.1 A.2.1.2.2 = st
    generalize hsy : stY A.1 A.2.1.1 A.2.1.2.2 a = sy
    refine ws_it (fun c s τ => s = ((fo2 st (A.1.1 0) (0, 0, 0) c).1, nI c) ∧ PMr A.1 (fo2 sy (A.1.1 0) (fun _ _ => 0) c) τ ∧ eqr RlM σ τ) (A.1.1 2) (by omega) ⟨rfl, fun p hp k hk => hz _ (by omega), hq0⟩ ?_
    rintro c s υ hc ⟨rfl, hP, hq⟩
    refine wp_eq (ms_cloths (lT hq)) ?_
    by_cases hcn : c < A.1.1 2
    · rw [if_neg (nle_n hcn (by omega))]
      refine ws_it (fun l s υ => s = ((fi2 st c (fo2 st (A.1.1 0) (0, 0, 0) c) l).1, nI l) ∧ PMr A.1 (fi2 sy c (fo2 sy (A.1.1 0) (fun _ _ => 0) c) l) υ ∧ eqr RlM σ υ) (A.1.1 0) (by omega) ⟨rfl, hP, hq⟩ ?_
      rintro l s υ hl ⟨rfl, hP2, hq2⟩
      refine wp_eq (ms_lines (lT hq2)) ?_
      by_cases hln : l < A.1.1 0
      · rw [if_neg (nle_n hln (by omega))]
        refine wp_bd (mt_isTold hV.1 (lT hq2) (lS hq2) hV.2.1.1 hV.2.1.2.2 (lD hq2) hcn hln) ?_
        rintro r ω ⟨rfl, hq3⟩
        have hq4 : eqr RlM σ ω := eqr_tr hq2 (eqr_mono hq3 (fun b j z => Or.inl z))
        have hP3 := PMr_r hq3 hP2
        have es : fi2 st c (fo2 st (A.1.1 0) (0, 0, 0) c) (l + 1) = st3 A.1 A.2.1.1 A.2.1.2.2 c l (fi2 st c (fo2 st (A.1.1 0) (0, 0, 0) c) l) := by rw [hst]; rfl
        have ey : fi2 sy c (fo2 sy (A.1.1 0) (fun _ _ => 0) c) (l + 1) = stY A.1 A.2.1.1 A.2.1.2.2 a c l (fi2 sy c (fo2 sy (A.1.1 0) (fun _ _ => 0) c) l) := by rw [hsy]; rfl
        unfold st3 at es
        unfold stY at ey
        cases hb : prB A.1 A.2.1.1 A.2.1.2.2 c l with
        | false =>
          rw [hb, if_neg (by decide)] at es ey
          rw [if_pos (show b2i false = 0 from rfl)]
          refine wp_eq (show pu _ ω = some (_, ω) from rfl) ?_
          rw [lt_eq]
          exact wp_pu (Or.inl ⟨_, rfl, hln, by rw [es, nI_1], by rw [ey]; exact hP3, hq4⟩)
        | true =>
          rw [hb, if_pos rfl] at es ey
          rw [if_neg (show ¬ b2i true = 0 by decide), lt_eq]
          refine bd_asw (wp_bd (mt_hungFor hV.1 (lT hq4) (lS hq4) hV.2.1.1 hcn hln ha) ?_)
          intro _ τ1 h1
          have hq5 : eqr RlM σ τ1 := eqr_tr hq4 (eqr_mono h1.2 (fun b j z => Or.inl z))
          have hP4 := PMr_r h1.2 hP3
          generalize fi2 sy c (fo2 sy (A.1.1 0) (fun _ _ => 0) c) l = Y at hP4 ey
          have hvU := VSk_pn (T := A.1) (VSk_p1 (c := c) hV.2.1.1 hln) a
          refine bd_asw (ws_it (fun p s ω2 => s = nI p ∧ eqr (fun b _ => b = 269) τ1 ω2 ∧ ∀ p', p' < A.1.1 1 → ∀ k, k < 5 → ω2.1 269 (5 * p' + k) = if p' < p then (if nI k = weS A.1 (pnS A.1 (puS A.2.1.1 c (nI l) 1) a) p' + 1 then Y p' k + 1 else Y p' k) else Y p' k) (A.1.1 1) (by omega) ⟨rfl, eqr_rf, fun p' hp' k hk => by rw [if_neg (by omega)]; exact hP4 p' hp' k hk⟩ ?_)
          rintro p s ω2 hp ⟨rfl, hq6, hy⟩
          have hq7 : eqr RlM σ ω2 := eqr_tr hq5 (eqr_mono hq6 (fun b j z => Or.inr z))
          have hS7 : MSk A.1 882 (pnS A.1 (puS A.2.1.1 c (nI l) 1) a) ω2 := MSk_r hq6 v6 (fun j _ _ => by omega) h1.1
          refine wp_eq (ms_places (lT hq7)) ?_
          by_cases hpn : p < A.1.1 1
          · rw [if_neg (nle_n hpn (by omega))]
            have ew : FX12_weatherOf 249 (882 : Int32) (nI p) ω2 = some (weS A.1 (pnS A.1 (puS A.2.1.1 c (nI l) 1) a) p, ω2) := ms_weather (b := 882) hV.1 (lT hq7) okBt hS7 hvU hpn
            refine wp_eq ew ?_
            obtain ⟨k, hk, ek⟩ := we_1 A.1 (pnS A.1 (puS A.2.1.1 c (nI l) 1) a) p
            have ei : (5 : Int32) * nI p + (1 : Int32) + weS A.1 (pnS A.1 (puS A.2.1.1 c (nI l) 1) a) p = nI (5 * p + k) := by
              rw [Int32.add_assoc, Int32.add_comm 1, ek, show (5 : Int32) = nI 5 from rfl, pk_mul, nI_add]
            show wp (bd (aI 269 20 ((5 : Int32) * nI p + (1 : Int32) + weS A.1 (pnS A.1 (puS A.2.1.1 c (nI l) 1) a) p)) (fun x15 => bd (uI 269 20 ((5 : Int32) * nI p + (1 : Int32) + weS A.1 (pnS A.1 (puS A.2.1.1 c (nI l) 1) a) p) (x15 + (1 : Int32))) _)) ω2 _
            rw [ei]
            have hyk := hy p hpn k hk
            rw [if_neg (by omega)] at hyk
            refine ws_a (by omega) (by decide) hyk (ws_u (by omega) (by decide) ?_)
            rw [lt_eq]
            refine wp_pu (Or.inl ⟨_, rfl, hpn, nI_1 p, eqr_tr hq6 (eqr_up rfl), fun p' hp' k' hk' => ?_⟩)
            · by_cases z : p' = p
              · subst z
                rw [if_pos (by omega), ek]
                by_cases z2 : k' = k
                · subst z2
                  rw [if_pos rfl]
                  exact mm_at
                · rw [if_neg (fun e => z2 ((nI_eq (by omega) (by omega)).mp e))]
                  have := hy p' hp' k' hk'
                  rw [if_neg (by omega)] at this
                  exact (mm_ne (by omega)).trans this
              · have := hy p' hp' k' hk'
                refine (mm_ne (by omega)).trans (this.trans ?_)
                by_cases z2 : p' < p
                · rw [if_pos z2, if_pos (show p' < p + 1 by omega)]
                · rw [if_neg z2, if_neg (show ¬ p' < p + 1 by omega)]
          · rw [if_pos (nI_le (by omega) (by omega))]
            refine wp_pu (Or.inr ⟨_, rfl, ?_⟩)
            refine wp_eq (show pu _ ω2 = some (_, ω2) from rfl) ?_
            rw [lt_eq]
            refine wp_pu (Or.inl ⟨_, rfl, hln, by rw [es, nI_1], fun p' hp' k hk => ?_, hq7⟩)
            have := hy p' hp' k hk
            rw [if_pos (by omega)] at this
            rw [ey]
            exact this
      · have : l = A.1.1 0 := by omega
        rw [if_pos (nI_le (by omega) (by omega))]
        refine wp_pu (Or.inr ⟨_, rfl, ?_⟩)
        rw [lt_eq]
        rw [this] at hP2 ⊢
        exact wp_pu (Or.inl ⟨_, rfl, hcn, by rw [nI_1]; rfl, hP2, hq2⟩)
    · have : c = A.1.1 2 := by omega
      rw [if_pos (nI_le (by omega) (by omega))]
      refine wp_pu (Or.inr ⟨_, rfl, ?_⟩)
      rw [this] at hP ⊢
      unfold loF
      generalize fo2 sy (A.1.1 0) (fun _ _ => 0) (A.1.1 2) = Y at hP
      generalize (fo2 st (A.1.1 0) (0, 0, 0) (A.1.1 2)).1 = X1
      have hp2 := ms_places (lT hq)
      refine wp_eq (x := (mnF (fun p => mxI (Y p) 5) X1 (A.1.1 1)).1) (τ := υ) ?_ (wp_pu ⟨rfl, hq⟩)
      refine it_fun (fun p => ((mnF (fun p => mxI (Y p) 5) X1 p).1, (mnF (fun p => mxI (Y p) 5) X1 p).2, nI p)) (A.1.1 1) ?_ ?_ (fu_lt (by omega))
      · intro p hp
        refine (ev_bd hp2).trans ?_
        rw [if_neg (nle_n hp (by omega))]
        refine (bd_it (r := mxI (Y p) 5) (fun k => (mxI (Y p) k, nI k)) 5 rfl ?_ ?_ (by decide)).trans ?_
        · intro k hk
          rw [if_neg (show ¬ (5 : Int32) ≤ nI k from nle_n hk (by decide))]
          have ei : (5 : Int32) * nI p + nI k = nI (5 * p + k) := by rw [show (5 : Int32) = nI 5 from rfl, pk_mul, nI_add]
          have e1 := ev_aI (a := 269) (n := 20) (σ := υ) (show 5 * p + k < 20 by omega) (by decide)
          rw [hP p hp k hk, ← ei] at e1
          have es : mxI (Y p) (k + 1) = if mxI (Y p) k < Y p k then Y p k else mxI (Y p) k := rfl
          rw [es]
          by_cases z : Y p k ≤ mxI (Y p) k
          · simp [bd, e1, z, Int32.not_lt.mpr z, lt, pu, nI_1]
          · simp [bd, e1, z, Int32.not_le.mp z, lt, pu, nI_1]
        · rw [if_pos (show (5 : Int32) ≤ nI 5 by decide)]
          rfl
        · by_cases z : (mnF (fun p => mxI (Y p) 5) X1 p).2 ≤ mxI (Y p) 5 <;> simp [bd, z, mn_1, mn_2, lt, pu, nI_1]
      · refine (ev_bd hp2).trans ?_
        rw [if_pos (le_nn (by omega))]
        rfl
  · rw [if_neg w, if_pos (bf w)]
    exact wp_pu ⟨rfl, eqr_rf⟩
theorem ok_20 {σ : MM} (h : Inv σ) (q : Nat → Int32) : okC (fun chk => TL_20 chk q) σ := by
  obtain ⟨A, hV, hC, hM⟩ := h
  exact okC_of (eq := fun x y => x = y) rfl hV hV hM (cq_w hC (c_look hV hC (q 1)) RpC_sc) (fun τ hM => m_look hV hM (q 1))
