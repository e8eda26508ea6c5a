/-! ===== want, tell, mark ===== -/
def kA (A : AB) (K : MK) (n : Nat) (H : Nat → SK) (G : (Nat → Bool) × (Nat → MK)) : AB := (A.1, K, (n, H), A.2.2.2.1, G, A.2.2.2.2.2)
theorem CA_k {A : AB} {K : MK} {n : Nat} {H : Nat → SK} {G : (Nat → Bool) × (Nat → MK)} {R : Nat → Nat → Prop} {σ τ : MM} (h : CA A σ) (hq : eqr R σ τ) (hR : ∀ b j, R b j → b = 14 ∨ (38 ≤ b ∧ b ≤ 212)) (hK : CMk A.1 38 131 134 K τ) (hP : CPa A.1 n H τ) (hG : CMa A.1 G τ) : CA (kA A K n H G) τ := by
  obtain ⟨h1, h2, h3, h4, h5, h6, h7⟩ := h
  have hr : ∀ b j, ¬ (b = 14 ∨ (38 ≤ b ∧ b ≤ 212)) → ¬ R b j := fun b j n q => n (hR b j q)
  exact ⟨CTn_r hq (fun b j _ _ => hr b j (by omega)) h1, hK, hP, CPl_r hq (fun b j _ => hr b j (by omega)) h4, hG, CTa_r hq ⟨hr _ _ (by omega), fun j => hr _ _ (by omega)⟩ h6, CNa_r hq h7⟩
theorem MA_k {A : AB} {K : MK} {n : Nat} {H : Nat → SK} {G : (Nat → Bool) × (Nat → MK)} {R : Nat → Nat → Prop} {σ τ : MM} (hV : VA A) (h : MA A σ) (hq : eqr R σ τ) (hR : ∀ b j, R b j → (263 ≤ b ∧ b ≤ 266) ∨ (b = 249 ∧ (j = 0 ∨ j = 24))) (hK : MMk A.1 0 K τ) (hP : MPa A.1 n H τ) (hG : MMa A.1 G τ) : MA (kA A K n H G) τ := by
  obtain ⟨h1, h2, h3, h4, h5, h6, h7⟩ := h
  have hr : ∀ b j, ¬ ((263 ≤ b ∧ b ≤ 266) ∨ (b = 249 ∧ (j = 0 ∨ j = 24))) → ¬ R b j := fun b j n q => n (hR b j q)
  exact ⟨MTn_r hq (fun b j _ _ => hr b j (by omega)) h1, hK, hP, MPl_r hq hV.2.2.2.1.1 (fun j _ => hr _ j (by omega)) h4, hG, MTa_r hq ⟨hr _ _ (by omega), fun j => hr _ _ (by omega)⟩ h6, MNa_r hq ⟨hr _ _ (by omega), fun j => hr _ _ (by omega)⟩ h7⟩
theorem VA_k {A : AB} {K : MK} {n : Nat} {H : Nat → SK} {G : (Nat → Bool) × (Nat → MK)} (hV : VA A) (hK : VMk A.1 K) (hH : ∀ i, i < n → VSk A.1 (H i)) (hG : ∀ m, m < 4 → G.1 m = true → VMk A.1 (G.2 m)) : VA (kA A K n H G) := ⟨hV.1, hK, hH, hV.2.2.2.1, hG, hV.2.2.2.2.2⟩
/-- a weather, or none -/
def iwe (y : Int32) : Bool := decide (¬ y < -1) && decide (¬ 3 < y)
theorem le34 (y : Int32) : (4 ≤ y) = (3 < y) := by
  apply propext
  rw [Int32.le_iff_toInt_le, Int32.lt_iff_toInt_lt]
  have e1 : (4 : Int32).toInt = 4 := rfl
  have e2 : (3 : Int32).toInt = 3 := rfl
  omega
theorem c_isWeather (y : Int32) (σ : MM) : FX11_isWeather y σ = some (iwe y, σ) := by
  unfold FX11_isWeather iwe
  by_cases q1 : y < -1 <;> by_cases q2 : 3 < y <;> simp [bd, le34, q1, q2, pu, zb]
theorem m_isWeather (y : Int32) (σ : MM) : FX12_within y (-1 : Int32) (3 : Int32) σ = some (iwe y, σ) := ms_within y (-1) 3 σ
theorem iwe_ex {y : Int32} (h : iwe y = true) : y = -1 ∨ ∃ k, k < 4 ∧ y = nI k := by
  unfold iwe at h
  simp only [Bool.and_eq_true, decide_eq_true_eq] at h
  by_cases q : y < 0
  · left
    apply Int32.toInt_inj.mp
    have h1 := Int32.lt_iff_toInt_lt.mp q
    have h2 : ¬ y.toInt < (-1 : Int32).toInt := fun n => h.1 (Int32.lt_iff_toInt_lt.mpr n)
    have e1 : (-1 : Int32).toInt = -1 := rfl
    have e2 : (0 : Int32).toInt = 0 := rfl
    omega
  · right
    obtain ⟨j, hj, e⟩ := nI_of2 (n := 3) rfl q (Int32.not_lt.mp h.2)
    exact ⟨j, by omega, e⟩
/-! want -/
def wtK (K : MK) (x y : Int32) : MK := (K.1, (fun p => if p = x.toNatClampNeg then y else K.2.1 p), K.2.2)
def wtB (A : AB) (x y : Int32) : Bool := inN x (A.1.1 1) && iwe y
def wtA (A : AB) (x y : Int32) : AB := if wtB A x y = true then kA A (wtK A.2.1 x y) A.2.2.1.1 A.2.2.1.2 A.2.2.2.2.1 else A
theorem VA_wt {A : AB} {x y : Int32} (hV : VA A) : VA (wtA A x y) := by
  have v4 := hV.1.1.2.1
  unfold wtA
  by_cases q : wtB A x y = true
  · rw [if_pos q]
    unfold wtB at q
    simp only [Bool.and_eq_true] at q
    obtain ⟨k, hk, rfl⟩ := inN_ex (by omega) q.1
    refine VA_k hV ⟨hV.2.1.1, fun p hp => ?_, hV.2.1.2.2⟩ hV.2.2.1 hV.2.2.2.2.1
    have h0 := hV.2.1.2.1 p hp
    show ((if p = (nI k).toNatClampNeg then y else A.2.1.2.1 p) = -2 ∨ _) ∧ _
    simp only [wtK]
    rw [cl_n (by omega)]
    by_cases z : p = k
    · rw [if_pos z]
      exact ⟨Or.inr (iwe_ex q.2), fun h => by omega⟩
    · rw [if_neg z]; exact h0
  · rw [if_neg q]; exact hV
theorem c_want {A : AB} {σ : MM} (hV : VA A) (hA : CA A σ) (x y : Int32) : wp (FX11_want 0 x y) σ (fun r τ => r = wtB A x y ∧ CA (wtA A x y) τ ∧ ofC σ τ) := by
  have v4 := hV.1.1.2.1
  unfold FX11_want wtA
  rw [r0_1, r0_8, r130_0]
  refine wp_eq (c_hasPlace hA.1.1 x) ?_
  by_cases q : inN x (A.1.1 1) = true
  · rw [if_neg (bt q)]
    refine wp_eq (c_isWeather y σ) ?_
    by_cases q2 : iwe y = true
    · have hb : wtB A x y = true := by simp [wtB, q, q2]
      rw [if_neg (bt q2), if_pos hb]
      obtain ⟨k, hk, rfl⟩ := inN_ex (by omega) q
      refine ws_u (by omega) (by decide) (ws_z1 ⟨hb.symm, ?_, ofC_r (R := fun b _ => b = 131) (eqr_up rfl) (fun b j _ => by omega)⟩)
      have hq : eqr (fun b _ => b = 131) σ (up2 σ.1 131 k y, σ.2) := eqr_up rfl
      refine CA_k hA hq (fun b j _ => by omega) ⟨CSk_r hq (fun j => by omega) (by omega) hA.2.1.1, fun p hp => ?_, CTo_r hq ⟨by omega, fun j => by omega⟩ hA.2.1.2.2⟩ (CPa_r hq (fun b j _ _ => by omega) hA.2.2.1) (CMa_r hq (fun b j _ _ => by omega) hA.2.2.2.2.1)
      show up2 σ.1 131 k y 131 p = if p = (nI k).toNatClampNeg then y else A.2.1.2.1 p
      rw [cl_n (by omega)]
      by_cases z : p = k
      · subst z; rw [up2_at, if_pos rfl]
      · rw [up2_ne (by omega), if_neg z]; exact hA.2.1.2.1 p hp
    · have hb : ¬ wtB A x y = true := by simp [wtB, q, q2]
      rw [if_pos (bf q2), if_neg hb]
      exact ws_z0 ⟨by simpa using hb, hA, ofC_rf⟩
  · have hb : ¬ wtB A x y = true := by simp [wtB, q]
    rw [if_pos (bf q), if_neg hb]
    exact ws_z0 ⟨by simpa using hb, hA, ofC_rf⟩
theorem m_want {A : AB} {σ : MM} (hV : VA A) (hA : MA A σ) (x y : Int32) : wp (FX12_want 249 x y) σ (fun r τ => r = wtB A x y ∧ MA (wtA A x y) τ ∧ ofM σ τ) := by
  have v4 := hV.1.1.2.1
  have v6 := hV.1.1.2.2.1
  unfold FX12_want
  refine m_th2 hV hA ?_
  intro σ hA
  unfold wtA
  rw [r249_23]
  refine wp_eq (m_isPlace hA.1.1 x) ?_
  by_cases q : inN x (A.1.1 1) = true
  · rw [if_neg (bt q)]
    refine wp_eq (m_isWeather y σ) ?_
    by_cases q2 : iwe y = true
    · have hb : wtB A x y = true := by simp [wtB, q, q2]
      rw [if_neg (bt q2), if_pos hb]
      obtain ⟨k, hk, rfl⟩ := inN_ex (by omega) q
      rw [show (19 : Int32) + nI k = nI (0 + 19 + k) from nI_add 19 k]
      have hq : eqr (fun b j => b = 265 ∧ j = 0 + 19 + k) σ (up2 σ.1 265 (0 + 19 + k) y, σ.2) := eqr_up ⟨rfl, rfl⟩
      refine ws_u (by omega) (by decide) (ws_z1 ⟨hb.symm, ?_, ofM_r hq (fun b j _ => by omega)⟩)
      refine MA_k hV hA hq (fun b j _ => by omega) ⟨MSk_r hq v6 (fun j _ _ => by omega) hA.2.1.1, fun p hp => ?_, MTo_r hq hV.2.1.2.2.1 (fun j _ _ => by omega) hA.2.1.2.2⟩ (MPa_r v6 hq (fun j _ _ => by omega) (by omega) hA.2.2.1) (MMa_r v6 hV.2.2.2.2.1 hq ⟨fun j => by omega, fun j _ _ => by omega⟩ hA.2.2.2.2.1)
      show up2 σ.1 265 (0 + 19 + k) y 265 (0 + 19 + p) = if p = (nI k).toNatClampNeg then y else A.2.1.2.1 p
      rw [cl_n (by omega)]
      by_cases z : p = k
      · subst z; rw [up2_at, if_pos rfl]
      · rw [up2_ne (by omega), if_neg z]; exact hA.2.1.2.1 p hp
    · have hb : ¬ wtB A x y = true := by simp [wtB, q, q2]
      rw [if_pos (bf q2), if_neg hb]
      exact ws_z0 ⟨by simpa using hb, hA, ofM_rf⟩
  · have hb : ¬ wtB A x y = true := by simp [wtB, q]
    rw [if_pos (bf q), if_neg hb]
    exact ws_z0 ⟨by simpa using hb, hA, ofM_rf⟩
theorem ok_15 {σ : MM} (h : Inv σ) (q : Nat → Int32) : okC (fun chk => TL_15 chk q) σ := by
  obtain ⟨A, hV, hC, hM⟩ := h
  exact okC_of (eq := fun x y => b2i x = b2i y) rfl hV (VA_wt hV) hM (c_want hV hC (q 1) (q 2)) (fun τ hM => m_want hV hM (q 1) (q 2))
/-! tell -/
def teD (D : TO) (x y z : Int32) : TO := (D.1 + 1, fun r i => if i = D.1 then (if r = 0 then x else if r = 1 then y else z) else D.2 r i)
def teB (A : AB) (x y z : Int32) : Bool := inN x (A.1.1 1) && (decide (¬ y < 0) && decide (¬ 12 < y)) && iwe z && decide (A.2.1.2.2.1 < 6)
def teA (A : AB) (x y z : Int32) : AB := if teB A x y z = true then kA A (A.2.1.1, A.2.1.2.1, teD A.2.1.2.2 x y z) A.2.2.1.1 A.2.2.1.2 A.2.2.2.2.1 else A
theorem te_ok {A : AB} {x y z : Int32} (h : teB A x y z = true) : inN x (A.1.1 1) = true ∧ (decide (¬ y < 0) && decide (¬ 12 < y)) = true ∧ iwe z = true ∧ A.2.1.2.2.1 < 6 := by
  unfold teB at h
  rw [Bool.and_eq_true, Bool.and_eq_true, Bool.and_eq_true (inN x (A.1.1 1)), decide_eq_true_eq] at h
  exact ⟨h.1.1.1, h.1.1.2, h.1.2, h.2⟩
theorem te_of {A : AB} {x y z : Int32} (h1 : inN x (A.1.1 1) = true) (h2 : (decide (¬ y < 0) && decide (¬ 12 < y)) = true) (h3 : iwe z = true) (h4 : A.2.1.2.2.1 < 6) : teB A x y z = true := by
  unfold teB
  rw [h1, h2, h3]
  simp [h4]
theorem VA_te {A : AB} {x y z : Int32} (hV : VA A) : VA (teA A x y z) := by
  have v4 := hV.1.1.2.1
  unfold teA
  by_cases q : teB A x y z = true
  · rw [if_pos q]
    obtain ⟨k1, k2, k3, k4⟩ := te_ok q
    obtain ⟨p, hp, rfl⟩ := inN_ex (by omega) k1
    obtain ⟨j, hj, rfl⟩ := wi_ex (n := 12) rfl k2
    refine VA_k hV ⟨hV.2.1.1, hV.2.1.2.1, by show A.2.1.2.2.1 + 1 ≤ 6; omega, fun i hi => ?_⟩ hV.2.2.1 hV.2.2.2.2.1
    by_cases z1 : i = A.2.1.2.2.1
    · show (∃ p, p < A.1.1 1 ∧ (if i = A.2.1.2.2.1 then _ else _) = nI p) ∧ (∃ h, h ≤ 12 ∧ (if i = A.2.1.2.2.1 then _ else _) = nI h) ∧ ((if i = A.2.1.2.2.1 then _ else _) = -1 ∨ ∃ k, k < 4 ∧ (if i = A.2.1.2.2.1 then _ else _) = nI k)
      simp only [z1, if_true]
      exact ⟨⟨p, hp, rfl⟩, ⟨j, hj, rfl⟩, iwe_ex k3⟩
    · have hi2 : i < A.2.1.2.2.1 := by
        have : i < A.2.1.2.2.1 + 1 := hi
        omega
      have h0 := hV.2.1.2.2.2 i hi2
      show (∃ p, p < A.1.1 1 ∧ (if i = A.2.1.2.2.1 then _ else _) = nI p) ∧ (∃ h, h ≤ 12 ∧ (if i = A.2.1.2.2.1 then _ else _) = nI h) ∧ ((if i = A.2.1.2.2.1 then _ else _) = -1 ∨ ∃ k, k < 4 ∧ (if i = A.2.1.2.2.1 then _ else _) = nI k)
      simp only [z1, if_false]
      exact h0
  · rw [if_neg q]; exact hV
theorem c_tell {A : AB} {σ : MM} (hV : VA A) (hA : CA A σ) (x y z : Int32) : wp (FX11_tell 0 x y z) σ (fun r τ => r = teB A x y z ∧ CA (teA A x y z) τ ∧ ofC σ τ) := by
  have v4 := hV.1.1.2.1
  have vn := hV.2.1.2.2.1
  unfold FX11_tell
  rw [r0_1, r0_9]
  have no : ¬ teB A x y z = true → wp (zb (0 : Int32)) σ (fun r τ => r = teB A x y z ∧ CA (teA A x y z) τ ∧ ofC σ τ) := by
    intro q
    unfold teA
    rw [if_neg q]
    exact ws_z0 ⟨by simpa using q, hA, ofC_rf⟩
  refine wp_eq (c_hasPlace hA.1.1 x) ?_
  by_cases q : inN x (A.1.1 1) = true
  · rw [if_neg (bt q)]
    by_cases q1 : y < 0
    · rw [if_pos q1]
      exact no (fun h => by have := (te_ok h).2.1; simp [q1] at this)
    · rw [if_neg q1]
      by_cases q2 : 12 < y
      · rw [if_pos q2]
        exact no (fun h => by have := (te_ok h).2.1; simp [q2] at this)
      · rw [if_neg q2]
        refine wp_eq (c_isWeather z σ) ?_
        by_cases q3 : iwe z = true
        · rw [if_neg (bt q3)]
          have hn := hA.2.1.2.2.1
          by_cases q4 : A.2.1.2.2.1 < 6
          · have hb : teB A x y z = true := te_of q (by simp [q1, q2]) q3 q4
            unfold FX6_add teA
            rw [if_pos hb, r134_0, r134_1, r134_2]
            refine bd_asw (ws_gv hn ?_)
            rw [if_pos (show nI A.2.1.2.2.1 < 6 from (nI_ltI (b := 6) (by omega) (by decide)).mpr q4)]
            refine bd_asw (ws_gv hn (bd_asw (ws_u q4 (by decide) ?_)))
            refine bd_asw (ws_gv (x := nI A.2.1.2.2.1) ((mm_ne (by omega)).trans hn) (bd_asw (ws_u q4 (by decide) ?_)))
            refine bd_asw (ws_gv (x := nI A.2.1.2.2.1) (show up2 (up2 σ.1 135 A.2.1.2.2.1 x) 136 A.2.1.2.2.1 y 134 3 = _ by rw [up2_ne (by omega), up2_ne (by omega)]; exact hn) (bd_asw (ws_u q4 (by decide) ?_)))
            refine bd_asw (ws_gv (x := nI A.2.1.2.2.1) (show up2 (up2 (up2 σ.1 135 A.2.1.2.2.1 x) 136 A.2.1.2.2.1 y) 137 A.2.1.2.2.1 z 134 3 = _ by rw [up2_ne (by omega), up2_ne (by omega), up2_ne (by omega)]; exact hn) (bd_asw (ws_s ?_)))
            refine wp_eq (x := true) rfl (ws_z (b := true) ?_)
            have hq : eqr (fun b j => (b = 134 ∧ j = 3) ∨ (135 ≤ b ∧ b ≤ 137)) σ (up2 (up2 (up2 (up2 σ.1 135 A.2.1.2.2.1 x) 136 A.2.1.2.2.1 y) 137 A.2.1.2.2.1 z) 134 3 (nI A.2.1.2.2.1 + 1), σ.2) := by
              refine ⟨fun b j h => ?_, rfl⟩
              show up2 _ _ _ _ b j = _
              rw [up2_ne (by omega), up2_ne (by omega), up2_ne (by omega), up2_ne (by omega)]
            refine ⟨hb.symm, ?_, ofC_r hq (fun b j _ => by omega)⟩
            refine CA_k hA hq (fun b j _ => by omega) ⟨CSk_r hq (fun j => by omega) (by omega) hA.2.1.1, CWa_r hq (fun j => by omega) hA.2.1.2.1, ?_, fun i hi => ?_⟩ (CPa_r hq (fun b j _ _ => by omega) hA.2.2.1) (CMa_r hq (fun b j _ _ => by omega) hA.2.2.2.2.1)
            · exact mm_at.trans (nI_1 _)
            · have hi' : i < A.2.1.2.2.1 + 1 := hi
              show up2 (up2 (up2 (up2 σ.1 135 A.2.1.2.2.1 x) 136 A.2.1.2.2.1 y) 137 A.2.1.2.2.1 z) 134 3 (nI A.2.1.2.2.1 + 1) 135 i = (if i = A.2.1.2.2.1 then x else A.2.1.2.2.2 0 i) ∧ up2 (up2 (up2 (up2 σ.1 135 A.2.1.2.2.1 x) 136 A.2.1.2.2.1 y) 137 A.2.1.2.2.1 z) 134 3 (nI A.2.1.2.2.1 + 1) 136 i = (if i = A.2.1.2.2.1 then y else A.2.1.2.2.2 1 i) ∧ up2 (up2 (up2 (up2 σ.1 135 A.2.1.2.2.1 x) 136 A.2.1.2.2.1 y) 137 A.2.1.2.2.1 z) 134 3 (nI A.2.1.2.2.1 + 1) 137 i = (if i = A.2.1.2.2.1 then z else A.2.1.2.2.2 2 i)
              by_cases z1 : i = A.2.1.2.2.1
              · simp [up2, z1]
              · obtain ⟨d1, d2, d3⟩ := hA.2.1.2.2.2 i (by omega)
                simp [up2, z1]
                exact ⟨d1, d2, d3⟩
          · have e6 : A.2.1.2.2.1 = 6 := by omega
            refine wp_eq (x := false) (τ := σ) ?_ (ws_z (b := false) ?_)
            · unfold FX6_add
              refine (ev_bd (show gI 134 3 σ = some (nI A.2.1.2.2.1, σ) by unfold gI; rw [hn])).trans ?_
              rw [e6, if_neg (by decide)]
              rfl
            · have nb : ¬ teB A x y z = true := fun h => q4 (te_ok h).2.2.2
              unfold teA
              rw [if_neg nb]
              exact ⟨by simpa using nb, hA, ofC_rf⟩
        · rw [if_pos (bf q3)]
          exact no (fun h => q3 (te_ok h).2.2.1)
  · rw [if_pos (bf q)]
    exact no (fun h => q (te_ok h).1)
theorem m_tell {A : AB} {σ : MM} (hV : VA A) (hA : MA A σ) (x y z : Int32) : wp (FX12_tell 249 x y z) σ (fun r τ => r = teB A x y z ∧ MA (teA A x y z) τ ∧ ofM σ τ) := by
  have v4 := hV.1.1.2.1
  have v6 := hV.1.1.2.2.1
  have vn := hV.2.1.2.2.1
  unfold FX12_tell
  refine m_th2 hV hA ?_
  intro σ hA
  rw [r249_23]
  have no : ¬ teB A x y z = true → wp (zb (0 : Int32)) σ (fun r τ => r = teB A x y z ∧ MA (teA A x y z) τ ∧ ofM σ τ) := by
    intro q
    unfold teA
    rw [if_neg q]
    exact ws_z0 ⟨by simpa using q, hA, ofM_rf⟩
  refine wp_eq (m_isPlace hA.1.1 x) ?_
  by_cases q : inN x (A.1.1 1) = true
  · rw [if_neg (bt q)]
    refine wp_eq (ms_within y 0 12 σ) ?_
    by_cases q1 : (decide (¬ y < 0) && decide (¬ 12 < y)) = true
    · rw [if_neg (bt q1)]
      refine wp_eq (m_isWeather z σ) ?_
      by_cases q3 : iwe z = true
      · rw [if_neg (bt q3)]
        have hn : σ.1 265 23 = nI A.2.1.2.2.1 := hA.2.1.2.2.1
        refine ws_a (i := 23) (by decide) (by decide) hn ?_
        by_cases q4 : A.2.1.2.2.1 < 6
        · have hb : teB A x y z = true := te_of q q1 q3 q4
          unfold teA
          rw [if_pos hb, if_neg (show ¬ nI A.2.1.2.2.1 = 6 from fun e => by have := (nI_eq (b := 6) (by omega) (by decide)).mp e; omega)]
          refine ws_a (i := 23) (by decide) (by decide) hn ?_
          have i0 : (24 : Int32) + (3 : Int32) * nI A.2.1.2.2.1 = nI (24 + 3 * A.2.1.2.2.1) := by rw [show (3 : Int32) = nI 3 from rfl, pk_mul]; exact nI_add 24 _
          have i1 : nI (24 + 3 * A.2.1.2.2.1) + (1 : Int32) = nI (25 + 3 * A.2.1.2.2.1) := by rw [nI_1]; congr 1; omega
          have i2 : nI (24 + 3 * A.2.1.2.2.1) + (2 : Int32) = nI (26 + 3 * A.2.1.2.2.1) := by rw [show (2 : Int32) = nI 2 from rfl, nI_add]; congr 1; omega
          rw [lt_eq, i0, i1, i2]
          refine ws_u (by omega) (by decide) (ws_u (by omega) (by decide) (ws_u (by omega) (by decide) ?_))
          refine ws_a (i := 23) (x := nI A.2.1.2.2.1) (by decide) (by decide) (show up2 (up2 (up2 σ.1 265 (24 + 3 * A.2.1.2.2.1) x) 265 (25 + 3 * A.2.1.2.2.1) y) 265 (26 + 3 * A.2.1.2.2.1) z 265 23 = _ by rw [up2_ne (by omega), up2_ne (by omega), up2_ne (by omega)]; exact hn) ?_
          refine ws_u (i := 23) (by decide) (by decide) (ws_z1 ?_)
          have hq : eqr (fun b j => b = 265 ∧ 23 ≤ j ∧ j < 42) σ (up2 (up2 (up2 (up2 σ.1 265 (24 + 3 * A.2.1.2.2.1) x) 265 (25 + 3 * A.2.1.2.2.1) y) 265 (26 + 3 * A.2.1.2.2.1) z) 265 23 (nI A.2.1.2.2.1 + 1), σ.2) := by
            refine ⟨fun b j h => ?_, rfl⟩
            show up2 _ _ _ _ b j = _
            rw [up2_ne (by omega), up2_ne (by omega), up2_ne (by omega), up2_ne (by omega)]
          refine ⟨hb.symm, ?_, ofM_r hq (fun b j _ => by omega)⟩
          refine MA_k hV hA hq (fun b j _ => by omega) ⟨MSk_r hq v6 (fun j _ _ => by omega) hA.2.1.1, MWa_r hq (fun j _ _ => by omega) hA.2.1.2.1, ?_, fun i hi => ?_⟩ (MPa_r v6 hq (fun j _ _ => by omega) (by omega) hA.2.2.1) (MMa_r v6 hV.2.2.2.2.1 hq ⟨fun j => by omega, fun j _ _ => by omega⟩ hA.2.2.2.2.1)
          · exact mm_at.trans (nI_1 _)
          · have hi' : i < A.2.1.2.2.1 + 1 := hi
            show up2 (up2 (up2 (up2 σ.1 265 (24 + 3 * A.2.1.2.2.1) x) 265 (25 + 3 * A.2.1.2.2.1) y) 265 (26 + 3 * A.2.1.2.2.1) z) 265 23 (nI A.2.1.2.2.1 + 1) 265 (0 + 24 + 3 * i) = (if i = A.2.1.2.2.1 then x else A.2.1.2.2.2 0 i) ∧ up2 (up2 (up2 (up2 σ.1 265 (24 + 3 * A.2.1.2.2.1) x) 265 (25 + 3 * A.2.1.2.2.1) y) 265 (26 + 3 * A.2.1.2.2.1) z) 265 23 (nI A.2.1.2.2.1 + 1) 265 (0 + 25 + 3 * i) = (if i = A.2.1.2.2.1 then y else A.2.1.2.2.2 1 i) ∧ up2 (up2 (up2 (up2 σ.1 265 (24 + 3 * A.2.1.2.2.1) x) 265 (25 + 3 * A.2.1.2.2.1) y) 265 (26 + 3 * A.2.1.2.2.1) z) 265 23 (nI A.2.1.2.2.1 + 1) 265 (0 + 26 + 3 * i) = (if i = A.2.1.2.2.1 then z else A.2.1.2.2.2 2 i)
            rw [Nat.zero_add, Nat.zero_add, Nat.zero_add]
            by_cases z1 : i = A.2.1.2.2.1
            · subst z1
              rw [if_pos rfl, if_pos rfl, if_pos rfl]
              refine ⟨?_, ?_, ?_⟩
              · rw [up2_ne (by omega), up2_ne (by omega), up2_ne (by omega), up2_at]
              · rw [up2_ne (by omega), up2_ne (by omega), up2_at]
              · rw [up2_ne (by omega), up2_at]
            · obtain ⟨d1, d2, d3⟩ := hA.2.1.2.2.2 i (by omega)
              rw [Nat.zero_add] at d1 d2 d3
              rw [if_neg z1, if_neg z1, if_neg z1]
              refine ⟨?_, ?_, ?_⟩
              · rw [up2_ne (by omega), up2_ne (by omega), up2_ne (by omega), up2_ne (by omega)]; exact d1
              · rw [up2_ne (by omega), up2_ne (by omega), up2_ne (by omega), up2_ne (by omega)]; exact d2
              · rw [up2_ne (by omega), up2_ne (by omega), up2_ne (by omega), up2_ne (by omega)]; exact d3
        · have e6 : A.2.1.2.2.1 = 6 := by omega
          rw [if_pos (show nI A.2.1.2.2.1 = 6 by rw [e6]; rfl)]
          exact no (fun h => q4 (te_ok h).2.2.2)
      · rw [if_pos (bf q3)]
        exact no (fun h => q3 (te_ok h).2.2.1)
    · rw [if_pos (bf q1)]
      exact no (fun h => q1 (te_ok h).2.1)
  · rw [if_pos (bf q)]
    exact no (fun h => q (te_ok h).1)
theorem ok_18 {σ : MM} (h : Inv σ) (q : Nat → Int32) : okC (fun chk => TL_18 chk q) σ := by
  obtain ⟨A, hV, hC, hM⟩ := h
  exact okC_of (eq := fun x y => b2i x = b2i y) rfl hV (VA_te hV) hM (c_tell hV hC (q 1) (q 2) (q 3)) (fun τ hM => m_tell hV hM (q 1) (q 2) (q 3))
