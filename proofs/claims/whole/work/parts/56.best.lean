/-! ===== best, owes ===== -/
def nbP (T : TW) (S U : SK) (p : Nat) : Bool := decide (¬ weS T S p = weS T U p)
def beF (T : TW) (S : SK) (c l : Nat) : Int32 := if frS T S l ≤ 0 then 0 else hmF (nbP T S (puS S c (nI l) 1)) (T.1 1)
theorem VSk_p1 {T : TW} {S : SK} {c l : Nat} (hv : VSk T S) (hl : l < T.1 0) : VSk T (puS S c (nI l) 1) := VSk_pu hv (Or.inr ⟨l, hl, rfl⟩) ⟨1, by decide, rfl⟩
theorem c_changedBy {T : TW} {S : SK} {σ τ : MM} {c l : Nat} (hV : VTn T) (hT : CTn T σ) (hS : CSk T 38 S σ) (h : eqr RtC σ τ) (hc : c < T.1 2) : wp (FX11_changedBy 0 (nI c) (nI l)) τ (fun r υ => r = hmF (nbP T S (puS S c (nI l) 1)) (T.1 1) ∧ eqr RtC σ υ) := by
  have v6 := hV.1.2.2.1
  have v4 := hV.1.2.1
  unfold FX11_changedBy
  rw [r0_1, r0_5, r0_6]
  obtain ⟨τ1, e1, h1⟩ := kt_copy v6 h hS
  refine wp_eq e1 ?_
  obtain ⟨τ2, e2, g1, g2⟩ := ks_putUp (l := nI l) (k := 1) v6 o43 h1.1 hc
  refine wp_eq e2 ?_
  have h2 : TrC T σ (puS S c (nI l) 1) τ2 := ⟨g1, eqr_tr h1.2 (eqr_mono g2 (fun b j z => by unfold RtC; omega))⟩
  refine ws_it (fun k s υ => s = (hmF (nbP T S (puS S c (nI l) 1)) k, nI k) ∧ TrC T σ (puS S c (nI l) 1) υ) (T.1 1) (by omega) ⟨rfl, h2⟩ ?_
  rintro k s υ hk ⟨rfl, hq⟩
  refine ws_gv (tc_T hq.2 hT).1.2.1 ?_
  by_cases hkn : k < T.1 1
  · rw [if_neg (nle_n hkn (by omega))]
    obtain ⟨υ1, e3, h3⟩ := kt_weather hV hT hq hkn
    obtain ⟨υ2, e4, h4⟩ := kt_now hV hT hS h3 hkn 0
    refine wp_eq e3 (wp_eq e4 ?_)
    have es : hmF (nbP T S (puS S c (nI l) 1)) (k + 1) = if nbP T S (puS S c (nI l) 1) k = true then hmF (nbP T S (puS S c (nI l) 1)) k + 1 else hmF (nbP T S (puS S c (nI l) 1)) k := rfl
    by_cases z : weS T (puS S c (nI l) 1) k = weS T S k
    · rw [if_pos (show weS T (puS S c (nI l) 1) k = (wxS T S k 0).1 from z)]
      refine wp_eq (show pu _ υ2 = some (_, υ2) from rfl) ?_
      rw [lt_eq]
      exact wp_pu (Or.inl ⟨_, rfl, hkn, by rw [es, if_neg (by simp [nbP, z]), nI_1], h4⟩)
    · rw [if_neg (show ¬ weS T (puS S c (nI l) 1) k = (wxS T S k 0).1 from z)]
      refine wp_eq (show (lt _ _ : PP Int32) υ2 = some (hmF (nbP T S (puS S c (nI l) 1)) k + 1, υ2) from rfl) ?_
      rw [lt_eq]
      exact wp_pu (Or.inl ⟨_, rfl, hkn, by rw [es, if_pos (by simp [nbP]; exact fun q => z q.symm), nI_1], h4⟩)
  · have : k = T.1 1 := by omega
    subst this
    rw [if_pos (le_nn (by omega))]
    exact wp_pu (Or.inr ⟨_, rfl, wp_pu ⟨rfl, hq.2⟩⟩)
def beR (A : AB) (x : Int32) : Int32 := if liS A.1 A.2.1.1 x = true then (bsF (beF A.1 A.2.1.1 x.toNatClampNeg) 0 (A.1.1 0)).1 else -1
theorem c_best {A : AB} {σ : MM} (hV : VA A) (hA : CA A σ) (x : Int32) : wp (FX11_best 0 x) σ (fun r τ => r = beR A x ∧ eqr RtC σ τ) := by
  have v5 := hV.1.1.1
  unfold FX11_best beR
  rw [r0_1, r0_5]
  refine wp_eq (ks_lies hA.1 o38 hA.2.1.1 x) ?_
  by_cases q : liS A.1 A.2.1.1 x = true
  · rw [if_neg (bt q), if_pos q]
    obtain ⟨k1, k2, -⟩ := li_ok hV.1 q
    generalize x.toNatClampNeg = c at k1 k2
    subst k2
    generalize hf : beF A.1 A.2.1.1 c = f
    refine ws_it (fun k s υ => s = ((bsF f 0 k).1, (bsF f 0 k).2, nI k) ∧ eqr RtC σ υ) (A.1.1 0) (by omega) ⟨rfl, eqr_rf⟩ ?_
    rintro k s υ hk ⟨rfl, hq⟩
    refine ws_gv (tc_T hq hA.1).1.1 ?_
    by_cases hkn : k < A.1.1 0
    · rw [if_neg (nle_n hkn (by omega))]
      refine wp_eq (ks_freeOn (tc_T hq hA.1) o38 (tc_S hq hA.2.1.1) hkn) ?_
      refine wp_bd (Q := fun r ω => r = f k ∧ eqr RtC σ ω) ?_ ?_
      · by_cases z : frS A.1 A.2.1.1 k ≤ 0
        · rw [if_pos z]
          exact wp_pu ⟨by rw [← hf]; unfold beF; rw [if_pos z], hq⟩
        · rw [if_neg z]
          refine wp_bd (c_changedBy (l := k) hV.1 hA.1 hA.2.1.1 hq k1) ?_
          rintro r ω ⟨rfl, h2⟩
          exact wp_pu ⟨by rw [← hf]; unfold beF; rw [if_neg z], h2⟩
      · rintro r ω ⟨rfl, h2⟩
        by_cases z : f k ≤ (bsF f 0 k).2
        · rw [if_pos z]
          refine wp_eq (show pu _ ω = some (_, ω) from rfl) ?_
          rw [lt_eq]
          exact wp_pu (Or.inl ⟨_, rfl, hkn, by rw [bs_1, bs_2, if_pos z, if_pos z, nI_1], h2⟩)
        · rw [if_neg z]
          refine wp_eq (show pu _ ω = some (_, ω) from rfl) ?_
          rw [lt_eq]
          exact wp_pu (Or.inl ⟨_, rfl, hkn, by rw [bs_1, bs_2, if_neg z, if_neg z, nI_1], h2⟩)
    · have : k = A.1.1 0 := by omega
      subst this
      rw [if_pos (le_nn (by omega))]
      exact wp_pu (Or.inr ⟨_, rfl, wp_pu ⟨rfl, hq⟩⟩)
  · rw [if_pos (bf q), if_neg q]
    exact wp_pu ⟨rfl, eqr_rf⟩
theorem m_best {A : AB} {σ : MM} (hV : VA A) (hA : MA A σ) (x : Int32) : wp (FX12_best 249 x) σ (fun r τ => r = beR A x ∧ MA A τ ∧ ofM σ τ) := by
  have v5 := hV.1.1.1
  have v4 := hV.1.1.2.1
  have v6 := hV.1.1.2.2.1
  unfold FX12_best
  refine mq_w hV hA (R := RtM) (fun σ hA => ?_) RtM_sc
  have no : ¬ liS A.1 A.2.1.1 x = true → wp (pu (-1 : Int32)) σ (fun y υ => y = beR A x ∧ eqr RtM σ υ) := by
    intro q
    unfold beR
    rw [if_neg q]
    exact wp_pu ⟨rfl, eqr_rf⟩
  refine wp_eq (m_isCloth hA.1.1 x) ?_
  by_cases q1 : inN x (A.1.1 2) = true
  · rw [if_neg (bt q1)]
    obtain ⟨c, hc, rfl⟩ := inN_ex (by omega) q1
    have eh : FX12_doesHang 249 (0 : Int32) (nI c) σ = some (decide (¬ A.2.1.1 1 c = -1), σ) := ms_doesHang (b := 0) hV.1 okB0 hA.2.1.1 hV.2.1.1 hc
    refine wp_eq eh ?_
    by_cases q : A.2.1.1 1 c = -1
    · have ql : liS A.1 A.2.1.1 (nI c) = true := by rw [li_n v6 hc]; simp [q]
      unfold beR
      rw [if_pos (by simp [q, b2i]), if_pos ql, cl_n (by omega)]
      generalize hf : beF A.1 A.2.1.1 c = f
      refine ws_it (fun k s υ => s = ((bsF f 0 k).1, (bsF f 0 k).2, nI k) ∧ eqr RtM σ υ) (A.1.1 0) (by omega) ⟨rfl, eqr_rf⟩ ?_
      rintro k s υ hk ⟨rfl, hq⟩
      refine wp_eq (ms_lines (tm_T hq hA.1)) ?_
      by_cases hkn : k < A.1.1 0
      · rw [if_neg (nle_n hkn (by omega))]
        refine wp_bd (mt_tries v6 hq hA.2.1.1) ?_
        intro _ τ1 h1
        obtain ⟨τ2, e2, g1, g2⟩ := ms_hangs (b := 882) (l := nI k) (k := 1) v6 okBt h1.1 hc
        refine wp_eq e2 ?_
        have h2 : TrM A.1 σ (puS A.2.1.1 c (nI k) 1) τ2 := ⟨g1, eqr_tr h1.2 (eqr_mono g2 (fun b j z => by unfold RtM; omega))⟩
        have hv2 : VSk A.1 (puS A.2.1.1 c (nI k) 1) := VSk_p1 hV.2.1.1 hkn
        have hp2 := ms_places (tm_T h2.2 hA.1)
        have hcn : ∀ {γ : Type} {kk : Int32 → PP γ}, bd (it (fun (s7 : Int32 × Int32) => (bd (FX12_places 249) (fun x8 => if x8 ≤ s7.2 then pu (Sum.inr s7.1) else bd (FX12_weatherOf 249 (0 : Int32) s7.2) (fun x9 => bd (FX12_weatherOf 249 (882 : Int32) s7.2) (fun x10 => bd (if x9 = x10 then pu (0 : Int32) else pu (1 : Int32) : PP (Int32)) (fun (v11 : Int32) => lt (s7.1 + v11) (fun y12 => lt (s7.2 + (1 : Int32)) (fun y13 => pu (Sum.inl (y12, y13)))))))) : PP ((Int32 × Int32) ⊕ (Int32)))) FU ((0 : Int32), (0 : Int32))) kk τ2 = kk (hmF (nbP A.1 A.2.1.1 (puS A.2.1.1 c (nI k) 1)) (A.1.1 1)) τ2 := by
          intro γ kk
          refine bd_it (fun m => (hmF (nbP A.1 A.2.1.1 (puS A.2.1.1 c (nI k) 1)) m, nI m)) (A.1.1 1) rfl ?_ ?_ (by omega)
          · intro m hm
            have w1 := mt_now hV.1 hA.1 hA.2.1.1 hV.2.1.1 h2 hm
            have w2 := mt_weather hV.1 hA.1 hv2 h2 hm
            have es : hmF (nbP A.1 A.2.1.1 (puS A.2.1.1 c (nI k) 1)) (m + 1) = if nbP A.1 A.2.1.1 (puS A.2.1.1 c (nI k) 1) m = true then hmF (nbP A.1 A.2.1.1 (puS A.2.1.1 c (nI k) 1)) m + 1 else hmF (nbP A.1 A.2.1.1 (puS A.2.1.1 c (nI k) 1)) m := rfl
            rw [es]
            by_cases z : weS A.1 A.2.1.1 m = weS A.1 (puS A.2.1.1 c (nI k) 1) m <;> simp [bd, hp2, nle_n hm (by omega), w1, w2, z, nbP, lt, pu, nI_1]
          · refine (ev_bd hp2).trans ?_
            rw [if_pos (le_nn (by omega))]
            rfl
        have e5 : FX12_freeOf 249 (0 : Int32) (nI k) τ2 = some (frS A.1 A.2.1.1 k, τ2) := ms_freeOf (b := 0) (tm_T h2.2 hA.1) okB0 (tm_S v6 h2.2 hA.2.1.1) hkn
        show ∃ r τ, _ ∧ _
        rw [hcn]
        show wp _ τ2 _
        refine wp_eq e5 ?_
        have ef : f k = if frS A.1 A.2.1.1 k ≤ 0 then 0 else hmF (nbP A.1 A.2.1.1 (puS A.2.1.1 c (nI k) 1)) (A.1.1 1) := by rw [← hf]; rfl
        refine wp_eq (x := f k) (τ := τ2) ?_ ?_
        · rw [ef]
          by_cases z : frS A.1 A.2.1.1 k ≤ 0
          · rw [if_pos z, if_pos z]; rfl
          · rw [if_neg z, if_neg z]; rfl
        by_cases z : f k ≤ (bsF f 0 k).2
        · rw [if_pos z, if_pos z]
          refine wp_eq (show pu _ τ2 = some (_, τ2) from rfl) (wp_eq (show pu _ τ2 = some (_, τ2) from rfl) ?_)
          rw [lt_eq]
          exact wp_pu (Or.inl ⟨_, rfl, hkn, by rw [bs_1, bs_2, if_pos z, if_pos z, nI_1], h2.2⟩)
        · rw [if_neg z, if_neg z]
          refine wp_eq (show pu _ τ2 = some (_, τ2) from rfl) (wp_eq (show pu _ τ2 = some (_, τ2) from rfl) ?_)
          rw [lt_eq]
          exact wp_pu (Or.inl ⟨_, rfl, hkn, by rw [bs_1, bs_2, if_neg z, if_neg z, nI_1], h2.2⟩)
      · have : k = A.1.1 0 := by omega
        subst this
        rw [if_pos (le_nn (by omega))]
        exact wp_pu (Or.inr ⟨_, rfl, wp_pu ⟨rfl, hq⟩⟩)
    · rw [if_neg (by simp [q, b2i])]
      exact no (by rw [li_n v6 hc]; simp [q])
  · rw [if_pos (bf q1)]
    refine no (fun z1 => q1 ?_)
    unfold liS at z1
    simp only [Bool.and_eq_true] at z1
    exact z1.1
theorem ok_23 {σ : MM} (h : Inv σ) (q : Nat → Int32) : okC (fun chk => TL_23 chk q) σ := by
  obtain ⟨A, hV, hC, hM⟩ := h
  exact okC_of (eq := fun x y => x = y) rfl hV hV hM (cq_w hC (c_best hV hC (q 1)) RtC_sc) (fun τ hM => m_best hV hM (q 1))
/-! owes -/
theorem sh1 : ∀ c, c < 6 → ∀ k, k < 6 → (((1 : Int32) <<< (nI c &&& 31)) >>> (nI k &&& 31)) &&& 1 = if k = c then 1 else 0 := by decide +kernel
theorem we_dn {T : TW} {S : SK} {c p : Nat} (h6 : T.1 2 ≤ 6) (hc : c < T.1 2) : weS T (dnS S c) p = (wxS T S p ((1 : Int32) <<< (nI c &&& 31))).1 := by
  unfold weS wxS
  rw [wst_cong (g := cnS T S p ((1 : Int32) <<< (nI c &&& 31))) (fun j _ => ?_) (Nat.le_refl 4)]
  unfold cnS
  refine hmF_cong (fun k hk => ?_)
  unfold kdc wtw dnS
  rw [pu_0, pu_1, sh1 c (by omega) k (by omega), zshr k (by omega)]
  by_cases z : k = c
  · simp [z, abv]
  · simp [z]
theorem we_dnl {T : TW} {S : SK} {c p : Nat} (hl : S 1 c = -1) : weS T (dnS S c) p = weS T S p := by
  unfold weS wxS
  rw [wst_cong (g := cnS T S p 0) (fun j _ => ?_) (Nat.le_refl 4)]
  unfold cnS
  refine hmF_cong (fun k hk => ?_)
  unfold kdc dnS
  rw [pu_0, pu_1]
  by_cases z : k = c
  · rw [if_pos z, z, hl]
  · rw [if_neg z]
def owP (T : TW) (S : SK) (p c : Nat) : Bool := decide (¬ weS T (dnS S c) p = weS T S p)
def owR (A : AB) (x : Int32) : Int32 := if inN x (A.1.1 1) = true then fsF (owP A.1 A.2.1.1 x.toNatClampNeg) 0 (A.1.1 2) else -1
theorem c_owes {A : AB} {σ : MM} (hV : VA A) (hA : CA A σ) (x : Int32) : wp (FX11_owes 0 x) σ (fun r τ => r = owR A x ∧ eqr RtC σ τ) := by
  have v4 := hV.1.1.2.1
  have v6 := hV.1.1.2.2.1
  unfold FX11_owes owR
  rw [r0_1, r0_5]
  refine wp_eq (c_hasPlace hA.1.1 x) ?_
  by_cases q : inN x (A.1.1 1) = true
  · rw [if_neg (bt q), if_pos q]
    obtain ⟨p, hp, rfl⟩ := inN_ex (by omega) q
    rw [cl_n (by omega)]
    obtain ⟨τ, e, q0, -⟩ := ks_weather hV.1 hA.1 o38 hA.2.1.1 hp 0
    refine wp_eq e ?_
    have hq0 : eqr RtC σ τ := eqr_mono q0 (fun b j z => by unfold RtC; omega)
    refine ws_it (fun k s υ => s = nI k ∧ eqr RtC σ υ ∧ fsF (owP A.1 A.2.1.1 p) 0 (A.1.1 2) = fsF (owP A.1 A.2.1.1 p) k (A.1.1 2 - k)) (A.1.1 2) (by omega) ⟨rfl, hq0, rfl⟩ ?_
    rintro k s υ hk ⟨rfl, hq, hf⟩
    refine ws_gv (tc_T hq hA.1).1.2.2.1 ?_
    by_cases hkn : k < A.1.1 2
    · rw [if_neg (nle_n hkn (by omega))]
      rw [show A.1.1 2 - k = (A.1.1 2 - (k + 1)) + 1 by omega] at hf
      refine wp_eq (ks_hangs (tc_T hq hA.1) o38 (tc_S hq hA.2.1.1) (nI k)) ?_
      rw [ha_n v6 hkn]
      by_cases z : A.2.1.1 1 k = -1
      · rw [if_pos (by simp [z, b2i]), lt_eq]
        refine wp_pu (Or.inl ⟨_, rfl, hkn, nI_1 k, hq, ?_⟩)
        rw [hf]
        show (if owP A.1 A.2.1.1 p k = true then _ else _) = _
        rw [if_neg (by simp [owP, we_dnl z])]
      · rw [if_neg (by simp [z, b2i])]
        obtain ⟨υ1, e1, q1, -⟩ := ks_weather hV.1 (tc_T hq hA.1) o38 (tc_S hq hA.2.1.1) hp ((1 : Int32) <<< (nI k &&& 31))
        have hq1 : eqr RtC σ υ1 := eqr_tr hq (eqr_mono q1 (fun b j z => by unfold RtC; omega))
        refine wp_eq e1 ?_
        rw [← we_dn v6 hkn]
        by_cases z2 : weS A.1 (dnS A.2.1.1 k) p = weS A.1 A.2.1.1 p
        · rw [if_pos (show weS A.1 (dnS A.2.1.1 k) p = (wxS A.1 A.2.1.1 p 0).1 from z2), lt_eq]
          refine wp_pu (Or.inl ⟨_, rfl, hkn, nI_1 k, hq1, ?_⟩)
          rw [hf]
          show (if owP A.1 A.2.1.1 p k = true then _ else _) = _
          rw [if_neg (by simp [owP, z2])]
        · rw [if_neg (show ¬ weS A.1 (dnS A.2.1.1 k) p = (wxS A.1 A.2.1.1 p 0).1 from z2)]
          refine wp_pu (Or.inr ⟨_, rfl, wp_pu ⟨?_, hq1⟩⟩)
          rw [hf]
          show _ = if owP A.1 A.2.1.1 p k = true then _ else _
          rw [if_pos (by simp [owP, z2])]
    · have : k = A.1.1 2 := by omega
      rw [if_pos (nI_le (by omega) (by omega))]
      refine wp_pu (Or.inr ⟨_, rfl, wp_pu ⟨?_, hq⟩⟩)
      rw [hf, this, Nat.sub_self]
      rfl
  · rw [if_pos (bf q), if_neg q]
    exact wp_pu ⟨rfl, eqr_rf⟩
theorem m_owes {A : AB} {σ : MM} (hV : VA A) (hA : MA A σ) (x : Int32) : wp (FX12_owes 249 x) σ (fun r τ => r = owR A x ∧ MA A τ ∧ ofM σ τ) := by
  have v4 := hV.1.1.2.1
  have v6 := hV.1.1.2.2.1
  unfold FX12_owes
  refine mq_w hV hA (R := RtM) (fun σ hA => ?_) RtM_sc
  unfold owR
  by_cases q : inN x (A.1.1 1) = true
  · rw [if_pos q]
    obtain ⟨p, hp, rfl⟩ := inN_ex (by omega) q
    rw [cl_n (by omega)]
    refine ws_it (fun k s υ => s = nI k ∧ eqr RtM σ υ ∧ fsF (owP A.1 A.2.1.1 p) 0 (A.1.1 2) = fsF (owP A.1 A.2.1.1 p) k (A.1.1 2 - k)) (A.1.1 2) (by omega) ⟨rfl, eqr_rf, rfl⟩ ?_
    rintro k s υ hk ⟨rfl, hq, hf⟩
    refine wp_eq (ms_cloths (tm_T hq hA.1)) ?_
    by_cases hkn : k < A.1.1 2
    · rw [if_neg (nle_n hkn (by omega))]
      rw [show A.1.1 2 - k = (A.1.1 2 - (k + 1)) + 1 by omega] at hf
      refine wp_eq (m_isPlace (tm_T hq hA.1).1 (nI p)) ?_
      rw [if_neg (bt q)]
      refine wp_bd (mt_tries v6 hq hA.2.1.1) ?_
      intro _ τ1 h1
      obtain ⟨τ2, e2, g1, g2⟩ := ms_comesDown (b := 882) v6 okBt h1.1 hkn
      refine wp_eq e2 ?_
      have h2 : TrM A.1 σ (dnS A.2.1.1 k) τ2 := ⟨g1, eqr_tr h1.2 (eqr_mono g2 (fun b j z => by unfold RtM; omega))⟩
      refine wp_eq (mt_weather hV.1 hA.1 (VSk_dn hV.2.1.1) h2 hp) ?_
      refine wp_eq (mt_now hV.1 hA.1 hA.2.1.1 hV.2.1.1 h2 hp) ?_
      by_cases z2 : weS A.1 (dnS A.2.1.1 k) p = weS A.1 A.2.1.1 p
      · rw [if_pos z2, lt_eq]
        refine wp_pu (Or.inl ⟨_, rfl, hkn, nI_1 k, h2.2, ?_⟩)
        rw [hf]
        show (if owP A.1 A.2.1.1 p k = true then _ else _) = _
        rw [if_neg (by simp [owP, z2])]
      · rw [if_neg z2]
        refine wp_pu (Or.inr ⟨_, rfl, wp_pu ⟨?_, h2.2⟩⟩)
        rw [hf]
        show _ = if owP A.1 A.2.1.1 p k = true then _ else _
        rw [if_pos (by simp [owP, z2])]
    · have : k = A.1.1 2 := by omega
      rw [if_pos (nI_le (by omega) (by omega))]
      refine wp_pu (Or.inr ⟨_, rfl, wp_pu ⟨?_, hq⟩⟩)
      rw [hf, this, Nat.sub_self]
      rfl
  · rw [if_neg q]
    refine ws_it (fun k s υ => s = nI k ∧ υ = σ) 0 (by omega) ⟨rfl, rfl⟩ ?_
    rintro k s υ hk ⟨rfl, rfl⟩
    have : k = 0 := by omega
    subst this
    refine wp_eq (ms_cloths hA.1) ?_
    by_cases hkn : 0 < A.1.1 2
    · rw [if_neg (nle_n hkn (by omega))]
      refine wp_eq (m_isPlace hA.1.1 x) ?_
      rw [if_pos (bf q)]
      exact wp_pu (Or.inr ⟨_, rfl, wp_pu ⟨rfl, eqr_rf⟩⟩)
    · rw [if_pos (nI_le (by omega) (by omega))]
      exact wp_pu (Or.inr ⟨_, rfl, wp_pu ⟨rfl, eqr_rf⟩⟩)
theorem ok_24 {σ : MM} (h : Inv σ) (q : Nat → Int32) : okC (fun chk => TL_24 chk q) σ := by
  obtain ⟨A, hV, hC, hM⟩ := h
  exact okC_of (eq := fun x y => x = y) rfl hV hV hM (cq_w hC (c_owes hV hC (q 1)) RtC_sc) (fun τ hM => m_owes hV hM (q 1))
