/-! take, wash, hour, undo -/
theorem ha_ok {T : TW} {S : SK} {x : Int32} (hV : VTn T) (h : haS T S x = true) : x.toNatClampNeg < T.1 2 ∧ x = nI x.toNatClampNeg ∧ ¬ S 1 x.toNatClampNeg = -1 := by
  have h6 := hV.1.2.2.1
  unfold haS at h
  simp only [Bool.and_eq_true, decide_eq_true_eq] at h
  obtain ⟨l1, l2⟩ := inN_c (by omega) h.1
  exact ⟨l1, l2, h.2⟩
theorem li_ok {T : TW} {S : SK} {x : Int32} (hV : VTn T) (h : liS T S x = true) : x.toNatClampNeg < T.1 2 ∧ x = nI x.toNatClampNeg ∧ S 1 x.toNatClampNeg = -1 := by
  have h6 := hV.1.2.2.1
  unfold liS at h
  simp only [Bool.and_eq_true, decide_eq_true_eq] at h
  obtain ⟨l1, l2⟩ := inN_c (by omega) h.1
  exact ⟨l1, l2, h.2⟩
def tkA (A : AB) (x : Int32) : AB := if haS A.1 A.2.1.1 x = true then kpA A (dnS A.2.1.1 x.toNatClampNeg) else A
def tkR (A : AB) (x : Int32) : Int32 := if haS A.1 A.2.1.1 x = true then A.2.1.1 0 x.toNatClampNeg else -1
theorem CA_n16 {A : AB} {σ : MM} (hA : CA A σ) : A.2.2.1.1 ≤ 16 := by
  obtain ⟨nx, -, hn, -⟩ := hA.2.2.1
  exact hn
theorem VA_tk {A : AB} {σ : MM} {x : Int32} (hV : VA A) (hA : CA A σ) : VA (tkA A x) := by
  unfold tkA
  by_cases q : haS A.1 A.2.1.1 x = true
  · rw [if_pos q]
    exact VA_kp hV (CA_n16 hA) (VSk_dn hV.2.1.1)
  · rw [if_neg q]; exact hV
theorem c_take {A : AB} {σ : MM} (hV : VA A) (hA : CA A σ) (x : Int32) : wp (FX11_take 0 x) σ (fun r τ => r = tkR A x ∧ CA (tkA A x) τ ∧ ofC σ τ) := by
  have v6 := hV.1.1.2.2.1
  unfold FX11_take tkR tkA
  rw [r0_5, r0_7, r38_1]
  refine wp_eq (ks_hangs hA.1 o38 hA.2.1.1 x) ?_
  by_cases q : haS A.1 A.2.1.1 x = true
  · rw [if_pos q, if_pos q, if_neg (bt q)]
    obtain ⟨k1, k2, k3⟩ := ha_ok hV.1 q
    refine wp_bd (ks_keep v6 hA.2.1.1 hA.2.2.1) ?_
    rintro _ τ ⟨hP, hq⟩
    have hS : CSk A.1 38 A.2.1.1 τ := CSk_r hq (fun j => by omega) (by omega) hA.2.1.1
    rw [k2]
    obtain ⟨υ, e, hS2, hq2⟩ := ks_putDown v6 o38 hS k1
    refine wp_eq e ?_
    have hq3 : eqr (fun r _ => (48 ≤ r ∧ r ≤ 129) ∨ r = 40 ∨ r = 41) σ υ := eqr_tr (eqr_mono hq (fun b j q => by omega)) (eqr_mono hq2 (fun b j q => by omega))
    refine ws_a (by omega) (by decide) ((hS2.2 _ k1).1.trans pu_0) (wp_pu ⟨?_, ?_, ofC_r hq3 (fun b j q => by omega)⟩)
    · rw [← k2]
    · rw [← k2]
      exact CA_now hA hq3 (fun b j q => by omega) hS2 (CPa_r hq2 (fun b j _ _ => by omega) hP)
  · rw [if_neg q, if_neg q, if_pos (bf q)]
    exact wp_pu ⟨rfl, hA, ofC_rf⟩
theorem m_take {A : AB} {σ : MM} (hV : VA A) (hA : MA A σ) (x : Int32) : wp (FX12_take 249 x) σ (fun r τ => r = tkR A x ∧ MA (tkA A x) τ ∧ ofM σ τ) := by
  have v6 := hV.1.1.2.2.1
  unfold FX12_take
  refine m_th2 hV hA ?_
  intro σ hA
  rw [r249_23]
  have no : ¬ haS A.1 A.2.1.1 x = true → wp (pu (-1 : Int32)) σ (fun r τ => r = tkR A x ∧ MA (tkA A x) τ ∧ ofM σ τ) := by
    intro q
    unfold tkR tkA
    rw [if_neg q, if_neg q]
    exact wp_pu ⟨rfl, hA, ofM_rf⟩
  refine wp_eq (m_isCloth hA.1.1 x) ?_
  by_cases q1 : inN x (A.1.1 2) = true
  · rw [if_neg (bt q1)]
    obtain ⟨l1, l2⟩ := inN_c (by omega) q1
    have e := ms_doesHang hV.1 okB0 hA.2.1.1 hV.2.1.1 l1
    rw [← l2] at e
    refine wp_eq e ?_
    by_cases q4 : haS A.1 A.2.1.1 x = true
    · obtain ⟨k1, k2, k3⟩ := ha_ok hV.1 q4
      rw [if_neg (by simp [k3, b2i])]
      unfold tkR tkA
      rw [if_pos q4, if_pos q4]
      refine wp_bd (ms_keeps v6 hA.2.1.1 hA.2.2.1) ?_
      rintro _ τ ⟨hP, hq⟩
      have hS : MSk A.1 0 A.2.1.1 τ := MSk_r hq v6 (fun j _ _ => by omega) hA.2.1.1
      obtain ⟨υ, e, hS2, hq2⟩ := ms_comesDown v6 okB0 hS k1
      rw [← k2] at e
      refine wp_eq e ?_
      have hq3 : eqr (fun b j => (b = 265 ∧ (j < 19 ∨ 210 ≤ j)) ∨ (b = 249 ∧ (j = 0 ∨ j = 24))) σ υ := eqr_tr (eqr_mono hq (fun b j q => by omega)) (eqr_mono hq2 (fun b j q => by omega))
      have i1 : (1 : Int32) + x = nI (0 + 1 + x.toNatClampNeg) := by
        rw [show (1 : Int32) + x = 1 + nI x.toNatClampNeg by rw [← k2]]
        exact nI_add 1 _
      rw [i1]
      refine ws_a (by omega) (by decide) ((hS2.2 _ k1).1.trans pu_0) (wp_pu ⟨rfl, ?_, ofM_r hq3 (fun b j q => by omega)⟩)
      exact MA_now hV hA hq3 (fun b j q => by omega) hS2 (MPa_r v6 hq2 (fun j _ _ => by omega) (by omega) hP)
    · rw [if_pos]
      · exact no q4
      · apply bf
        intro z1
        apply q4
        simp only [decide_eq_true_eq] at z1
        unfold haS
        simp only [Bool.and_eq_true, decide_eq_true_eq]
        exact ⟨q1, z1⟩
  · rw [if_pos (bf q1)]
    refine no (fun z1 => q1 ?_)
    unfold haS at z1
    simp only [Bool.and_eq_true] at z1
    exact z1.1
theorem ok_7 {σ : MM} (h : Inv σ) (q : Nat → Int32) : okC (fun chk => TL_7 chk q) σ := by
  obtain ⟨A, hV, hC, hM⟩ := h
  exact okC_of (eq := fun x y => x = y) rfl hV (VA_tk hV hC) hM (c_take hV hC (q 1)) (fun τ hM => m_take hV hM (q 1))
def wsA (A : AB) (x : Int32) : AB := if liS A.1 A.2.1.1 x = true then kpA A (soS A.1 A.2.1.1 x.toNatClampNeg) else A
theorem VA_ws {A : AB} {σ : MM} {x : Int32} (hV : VA A) (hA : CA A σ) : VA (wsA A x) := by
  unfold wsA
  by_cases q : liS A.1 A.2.1.1 x = true
  · rw [if_pos q]
    exact VA_kp hV (CA_n16 hA) (VSk_so hV.1 hV.2.1.1)
  · rw [if_neg q]; exact hV
theorem c_wash {A : AB} {σ : MM} (hV : VA A) (hA : CA A σ) (x : Int32) : wp (FX11_wash 0 x) σ (fun r τ => r = liS A.1 A.2.1.1 x ∧ CA (wsA A x) τ ∧ ofC σ τ) := by
  have v6 := hV.1.1.2.2.1
  unfold FX11_wash wsA
  rw [r0_5, r0_7]
  refine wp_eq (ks_lies hA.1 o38 hA.2.1.1 x) ?_
  by_cases q : liS A.1 A.2.1.1 x = true
  · rw [if_pos q, if_neg (bt q)]
    obtain ⟨k1, k2, k3⟩ := li_ok hV.1 q
    refine wp_bd (ks_keep v6 hA.2.1.1 hA.2.2.1) ?_
    rintro _ τ ⟨hP, hq⟩
    have hS : CSk A.1 38 A.2.1.1 τ := CSk_r hq (fun j => by omega) (by omega) hA.2.1.1
    have hT : CTn A.1 τ := CTn_r hq (fun b j _ _ => by omega) hA.1
    obtain ⟨υ, e, hS2, hq2⟩ := ks_soak hT o38 hS k1
    rw [← k2] at e
    refine wp_eq e ?_
    have hq3 : eqr (fun r _ => (48 ≤ r ∧ r ≤ 129) ∨ r = 39) σ υ := eqr_tr (eqr_mono hq (fun b j q => by omega)) (eqr_mono hq2 (fun b j q => by omega))
    exact ws_z1 ⟨q.symm, CA_now hA hq3 (fun b j q => by omega) hS2 (CPa_r hq2 (fun b j _ _ => by omega) hP), ofC_r hq3 (fun b j q => by omega)⟩
  · rw [if_neg q, if_pos (bf q)]
    exact ws_z0 ⟨by simpa using q, hA, ofC_rf⟩
theorem m_wash {A : AB} {σ : MM} (hV : VA A) (hA : MA A σ) (x : Int32) : wp (FX12_wash 249 x) σ (fun r τ => r = liS A.1 A.2.1.1 x ∧ MA (wsA A x) τ ∧ ofM σ τ) := by
  have v6 := hV.1.1.2.2.1
  unfold FX12_wash
  refine m_th2 hV hA ?_
  intro σ hA
  rw [r249_23]
  have no : ¬ liS A.1 A.2.1.1 x = true → wp (zb (0 : Int32)) σ (fun r τ => r = liS A.1 A.2.1.1 x ∧ MA (wsA A x) τ ∧ ofM σ τ) := by
    intro q
    unfold wsA
    rw [if_neg q]
    exact ws_z0 ⟨by simpa using q, hA, ofM_rf⟩
  refine wp_eq (m_isCloth hA.1.1 x) ?_
  by_cases q1 : inN x (A.1.1 2) = true
  · rw [if_neg (bt q1)]
    obtain ⟨l1, l2⟩ := inN_c (by omega) q1
    have e := ms_doesHang hV.1 okB0 hA.2.1.1 hV.2.1.1 l1
    rw [← l2] at e
    refine wp_eq e ?_
    by_cases q4 : liS A.1 A.2.1.1 x = true
    · obtain ⟨k1, k2, k3⟩ := li_ok hV.1 q4
      rw [if_pos (by simp [k3, b2i])]
      unfold wsA
      rw [if_pos q4]
      refine wp_bd (ms_keeps v6 hA.2.1.1 hA.2.2.1) ?_
      rintro _ τ ⟨hP, hq⟩
      have hS : MSk A.1 0 A.2.1.1 τ := MSk_r hq v6 (fun j _ _ => by omega) hA.2.1.1
      have hT : MTn A.1 τ := MTn_r hq (fun b j _ _ => by omega) hA.1
      have e2 := ms_soaked hV.1 hT k1
      rw [← k2] at e2
      refine wp_eq e2 ?_
      have i1 : (1 : Int32) + x = nI (0 + 1 + x.toNatClampNeg) := by
        rw [show (1 : Int32) + x = 1 + nI x.toNatClampNeg by rw [← k2]]
        exact nI_add 1 _
      rw [i1]
      have hS2 := ms_soak v6 hS k1
      have hq2 : eqr (fun b j => b = 265 ∧ j = 0 + 1 + x.toNatClampNeg) τ (up2 τ.1 265 (0 + 1 + x.toNatClampNeg) (A.1.2 4 x.toNatClampNeg), τ.2) := eqr_up (by omega)
      refine ws_u (by omega) (by decide) ?_
      have hq3 : eqr (fun b j => (b = 265 ∧ (j < 19 ∨ 210 ≤ j)) ∨ (b = 249 ∧ (j = 0 ∨ j = 24))) σ (up2 τ.1 265 (0 + 1 + x.toNatClampNeg) (A.1.2 4 x.toNatClampNeg), τ.2) := eqr_tr (eqr_mono hq (fun b j q => by omega)) (eqr_mono hq2 (fun b j q => by omega))
      exact ws_z1 ⟨q4.symm, MA_now hV hA hq3 (fun b j q => by omega) hS2 (MPa_r v6 hq2 (fun j _ _ => by omega) (by omega) hP), ofM_r hq3 (fun b j q => by omega)⟩
    · rw [if_neg]
      · exact no q4
      · apply bt
        simp only [decide_eq_true_eq]
        intro z1
        apply q4
        unfold liS
        simp only [Bool.and_eq_true, decide_eq_true_eq]
        exact ⟨q1, z1⟩
  · rw [if_pos (bf q1)]
    refine no (fun z1 => q1 ?_)
    unfold liS at z1
    simp only [Bool.and_eq_true] at z1
    exact z1.1
theorem ok_8 {σ : MM} (h : Inv σ) (q : Nat → Int32) : okC (fun chk => TL_8 chk q) σ := by
  obtain ⟨A, hV, hC, hM⟩ := h
  exact okC_of (eq := fun x y => b2i x = b2i y) rfl hV (VA_ws hV hC) hM (c_wash hV hC (q 1)) (fun τ hM => m_wash hV hM (q 1))
theorem c_hour {A : AB} {σ : MM} (hV : VA A) (hA : CA A σ) : wp (FX11_hour 0) σ (fun r τ => r = ddS A.1 A.2.1.1 true ∧ CA (kpA A (paS A.1 A.2.1.1 true)) τ ∧ ofC σ τ) := by
  have v6 := hV.1.1.2.2.1
  unfold FX11_hour
  rw [r0_5, r0_7]
  refine wp_bd (ks_keep v6 hA.2.1.1 hA.2.2.1) ?_
  rintro _ τ ⟨hP, hq⟩
  have hS : CSk A.1 38 A.2.1.1 τ := CSk_r hq (fun j => by omega) (by omega) hA.2.1.1
  have hT : CTn A.1 τ := CTn_r hq (fun b j _ _ => by omega) hA.1
  refine wp_bd (ks_pass hV.1 hT o38 hS true) ?_
  rintro r υ ⟨rfl, hS2, hq2⟩
  have hq3 : eqr (fun r _ => (48 ≤ r ∧ r ≤ 129) ∨ r = 14 ∨ r = 38 ∨ r = 39) σ υ := eqr_tr (eqr_mono hq (fun b j q => by omega)) (eqr_mono hq2 (fun b j q => by omega))
  exact wp_pu ⟨rfl, CA_now hA hq3 (fun b j q => by omega) hS2 (CPa_r hq2 (fun b j _ _ => by omega) hP), ofC_r hq3 (fun b j q => by omega)⟩
theorem m_hour {A : AB} {σ : MM} (hV : VA A) (hA : MA A σ) : wp (FX12_hour 249) σ (fun r τ => r = ddS A.1 A.2.1.1 true ∧ MA (kpA A (paS A.1 A.2.1.1 true)) τ ∧ ofM σ τ) := by
  have v6 := hV.1.1.2.2.1
  unfold FX12_hour
  refine m_th2 hV hA ?_
  intro σ hA
  refine wp_bd (ms_keeps v6 hA.2.1.1 hA.2.2.1) ?_
  rintro _ τ ⟨hP, hq⟩
  have hS : MSk A.1 0 A.2.1.1 τ := MSk_r hq v6 (fun j _ _ => by omega) hA.2.1.1
  have hT : MTn A.1 τ := MTn_r hq (fun b j _ _ => by omega) hA.1
  refine wp_bd (ms_pass hV.1 hT okB0 hS hV.2.1.1 true) ?_
  rintro r υ ⟨rfl, hS2, hq2⟩
  have hq3 : eqr (fun b j => b = 263 ∨ b = 264 ∨ (b = 265 ∧ (j < 19 ∨ 210 ≤ j)) ∨ (b = 249 ∧ (j = 0 ∨ j = 24))) σ υ := eqr_tr (eqr_mono hq (fun b j q => by omega)) (eqr_mono hq2 (fun b j q => by omega))
  exact wp_pu ⟨rfl, MA_now hV hA hq3 (fun b j q => by omega) hS2 (MPa_r v6 hq2 (fun j _ _ => by omega) (by omega) hP), ofM_r hq3 (fun b j q => by omega)⟩
theorem ok_9 {σ : MM} (h : Inv σ) (q : Nat → Int32) : okC (fun chk => TL_9 chk q) σ := by
  obtain ⟨A, hV, hC, hM⟩ := h
  exact okC_of (eq := fun x y => x = y) rfl hV (VA_kp hV (CA_n16 hC) (VSk_pa hV.2.1.1)) hM (c_hour hV hC) (fun τ hM => m_hour hV hM)
def unA (A : AB) : AB := nwA A (if A.2.2.1.1 = 0 then A.2.1.1 else A.2.2.1.2 (A.2.2.1.1 - 1)) (A.2.2.1.1 - 1) A.2.2.1.2
theorem VA_un {A : AB} (hV : VA A) : VA (unA A) := by
  refine VA_now hV ?_ (fun i hi => hV.2.2.1 i (by omega))
  by_cases q : A.2.2.1.1 = 0
  · rw [if_pos q]; exact hV.2.1.1
  · rw [if_neg q]; exact hV.2.2.1 _ (by omega)
theorem c_undo {A : AB} {σ : MM} (hV : VA A) (hA : CA A σ) : wp (FX11_undo 0) σ (fun r τ => r = decide (¬ A.2.2.1.1 = 0) ∧ CA (unA A) τ ∧ ofC σ τ) := by
  have v6 := hV.1.1.2.2.1
  unfold FX11_undo
  rw [r0_5, r0_7]
  refine wp_bd (ks_back v6 hA.2.1.1 hA.2.2.1) ?_
  rintro r τ ⟨rfl, hS, hP, hq⟩
  exact ws_z ⟨rfl, CA_now hA hq (fun b j q => by omega) hS hP, ofC_r hq (fun b j q => by omega)⟩
theorem m_undo {A : AB} {σ : MM} (hV : VA A) (hA : MA A σ) : wp (FX12_undo 249) σ (fun r τ => r = decide (¬ A.2.2.1.1 = 0) ∧ MA (unA A) τ ∧ ofM σ τ) := by
  have v6 := hV.1.1.2.2.1
  unfold FX12_undo
  refine m_th2 hV hA ?_
  intro σ hA
  obtain ⟨p1, p2, p3⟩ := hA.2.2.1
  refine ws_gv p2 ?_
  by_cases q : A.2.2.1.1 = 0
  · rw [q, if_pos (show nI 0 = 0 from rfl)]
    refine ws_z0 ⟨by simp, ?_, ofM_rf⟩
    unfold unA
    rw [if_pos q]
    refine MA_now (R := fun _ _ => False) hV hA eqr_rf (fun b j q => by cases q) hA.2.1.1 ?_
    rw [q]
    refine ⟨by omega, ?_, fun i hi => by omega⟩
    rw [p2, q]
  · rw [if_neg (nI_ne0 (by omega) (by omega))]
    refine ws_gv p2 (ws_s (ws_gv (x := nI (A.2.2.1.1 - 1)) ?_ ?_))
    · rw [mm_at]
      exact pk_sub (b := 1) (by omega)
    have i1 : (42 : Int32) * ((5 : Int32) + nI (A.2.2.1.1 - 1)) = nI (42 * (5 + (A.2.2.1.1 - 1))) := by rw [show (5 : Int32) = nI 5 from rfl, nI_add, show (42 : Int32) = nI 42 from rfl, pk_mul]
    rw [i1, show nI A.2.2.1.1 - (1 : Int32) = nI (A.2.2.1.1 - 1) from pk_sub (b := 1) (by omega)]
    have hq : eqr (fun b j => b = 249 ∧ j = 24) σ (up2 σ.1 249 24 (nI (A.2.2.1.1 - 1)), σ.2) := eqr_up (by omega)
    have e24 : ((up2 σ.1 249 24 (nI (A.2.2.1.1 - 1)), σ.2) : MM).1 249 24 = nI (A.2.2.1.1 - 1) := mm_at
    generalize ((up2 σ.1 249 24 (nI (A.2.2.1.1 - 1)), σ.2) : MM) = τ at hq e24
    have hH : MSk A.1 (42 * (5 + (A.2.2.1.1 - 1))) (A.2.2.1.2 (A.2.2.1.1 - 1)) τ := MSk_r hq v6 (fun j _ _ => by omega) (p3 _ (by omega))
    refine wp_bd (ms_copyS (t := 0) v6 (by omega) (by omega) (by omega) hH) ?_
    rintro _ υ ⟨hS2, hq2⟩
    have hq3 : eqr (fun b j => (b = 265 ∧ (j < 19 ∨ 210 ≤ j)) ∨ (b = 249 ∧ (j = 0 ∨ j = 24))) σ υ := eqr_tr (eqr_mono hq (fun b j q => by omega)) (eqr_mono hq2 (fun b j q => by omega))
    refine ws_z1 ⟨by simp [q], ?_, ofM_r hq3 (fun b j q => by omega)⟩
    unfold unA
    rw [if_neg q]
    refine MA_now hV hA hq3 (fun b j q => by omega) hS2 ⟨by omega, (hq2.1 _ _ (by omega)).trans e24, fun i hi => ?_⟩
    exact MSk_r hq2 v6 (fun j _ _ => by omega) (MSk_r hq v6 (fun j _ _ => by omega) (p3 i (by omega)))
theorem ok_10 {σ : MM} (h : Inv σ) (q : Nat → Int32) : okC (fun chk => TL_10 chk q) σ := by
  obtain ⟨A, hV, hC, hM⟩ := h
  exact okC_of (eq := fun x y => b2i x = b2i y) rfl hV (VA_un hV) hM (c_undo hV hC) (fun τ hM => m_undo hV hM)
