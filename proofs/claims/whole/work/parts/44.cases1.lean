/-! ===== pieces under change ===== -/
theorem CWa_r {R : Nat → Nat → Prop} {a : Nat} {W : Nat → Int32} {σ τ : MM} (h : eqr R σ τ) (hR : ∀ j, ¬ R a j) (hW : CWa a W σ) : CWa a W τ := fun p hp => (h.1 _ _ (hR p)).trans (hW p hp)
theorem CTo_r {R : Nat → Nat → Prop} {a : Nat} {D : TO} {σ τ : MM} (h : eqr R σ τ) (hR : ¬ R a 3 ∧ ∀ j, ¬ R (a + 1) j ∧ ¬ R (a + 2) j ∧ ¬ R (a + 3) j) (hD : CTo a D σ) : CTo a D τ := by
  refine ⟨(h.1 _ _ hR.1).trans hD.1, fun i hi => ?_⟩
  rw [h.1 _ _ (hR.2 i).1, h.1 _ _ (hR.2 i).2.1, h.1 _ _ (hR.2 i).2.2]
  exact hD.2 i hi
theorem CPl_r {R : Nat → Nat → Prop} {P : TO} {σ τ : MM} (h : eqr R σ τ) (hR : ∀ b j, (b = 28 ∧ j = 4) ∨ (29 ≤ b ∧ b ≤ 32) → ¬ R b j) (hP : CPl P σ) : CPl P τ := by
  refine ⟨(h.1 _ _ (hR _ _ (by omega))).trans hP.1, fun i hi => ?_⟩
  rw [h.1 29 i (hR _ _ (by omega)), h.1 30 i (hR _ _ (by omega)), h.1 31 i (hR _ _ (by omega)), h.1 32 i (hR _ _ (by omega))]
  exact hP.2 i hi
theorem CMa_r {R : Nat → Nat → Prop} {T : TW} {G : (Nat → Bool) × (Nat → MK)} {σ τ : MM} (h : eqr R σ τ) (hR : ∀ b j, 145 ≤ b → b ≤ 212 → ¬ R b j) (hG : CMa T G σ) : CMa T G τ := by
  intro m hm
  refine ⟨(h.1 _ _ (hR _ _ (by omega) (by omega))).trans (hG m hm).1, fun g => ?_⟩
  obtain ⟨k1, k2, k3⟩ := (hG m hm).2 g
  exact ⟨CSk_r h (fun j => ⟨hR _ _ (by omega) (by omega), hR _ _ (by omega) (by omega), hR _ _ (by omega) (by omega)⟩) (hR _ _ (by omega) (by omega)) k1, CWa_r h (fun j => hR _ _ (by omega) (by omega)) k2, CTo_r h ⟨hR _ _ (by omega) (by omega), fun j => ⟨hR _ _ (by omega) (by omega), hR _ _ (by omega) (by omega), hR _ _ (by omega) (by omega)⟩⟩ k3⟩
theorem CTa_r {R : Nat → Nat → Prop} {Q : Nat × (Nat → Int32)} {σ τ : MM} (h : eqr R σ τ) (hR : ¬ R 1 1 ∧ ∀ j, ¬ R 2 j) (hQ : CTa Q σ) : CTa Q τ := ⟨(h.1 _ _ hR.1).trans hQ.1, fun i hi => (h.1 _ _ (hR.2 i)).trans (hQ.2 i hi)⟩
theorem CNa_r {R : Nat → Nat → Prop} {T : TW} {N : Nat → Nat → List Nat} {σ τ : MM} (h : eqr R σ τ) (hN : CNa T N σ) : CNa T N τ := fun r hr i hi => by rw [h.2]; exact hN r hr i hi
theorem MWa_r {R : Nat → Nat → Prop} {b : Nat} {W : Nat → Int32} {σ τ : MM} (h : eqr R σ τ) (hR : ∀ j, b + 19 ≤ j → j < b + 23 → ¬ R 265 j) (hW : MWa b W σ) : MWa b W τ := fun p hp => (h.1 _ _ (hR _ (by omega) (by omega))).trans (hW p hp)
theorem MTo_r {R : Nat → Nat → Prop} {b : Nat} {D : TO} {σ τ : MM} (h : eqr R σ τ) (h6 : D.1 ≤ 6) (hR : ∀ j, b + 23 ≤ j → j < b + 42 → ¬ R 265 j) (hD : MTo b D σ) : MTo b D τ := by
  refine ⟨(h.1 _ _ (hR _ (by omega) (by omega))).trans hD.1, fun i hi => ?_⟩
  rw [h.1 _ _ (hR _ (by omega) (by omega)), h.1 _ _ (hR _ (by omega) (by omega)), h.1 _ _ (hR _ (by omega) (by omega))]
  exact hD.2 i hi
theorem MPl_r {R : Nat → Nat → Prop} {P : TO} {σ τ : MM} (h : eqr R σ τ) (h4 : P.1 ≤ 40) (hR : ∀ j, j < 165 → ¬ R 262 j) (hP : MPl P σ) : MPl P τ := by
  refine ⟨(h.1 _ _ (hR _ (by omega))).trans hP.1, fun i hi => ?_⟩
  rw [h.1 _ _ (hR _ (by omega)), h.1 _ _ (hR _ (by omega)), h.1 _ _ (hR _ (by omega)), h.1 _ _ (hR _ (by omega))]
  exact hP.2 i hi
theorem MMa_r {R : Nat → Nat → Prop} {T : TW} {G : (Nat → Bool) × (Nat → MK)} {σ τ : MM} (h6 : T.1 2 ≤ 6) (hV : ∀ m, m < 4 → G.1 m = true → VMk T (G.2 m)) (h : eqr R σ τ) (hR : (∀ j, ¬ R 266 j) ∧ ∀ j, 42 ≤ j → j < 210 → ¬ R 265 j) (hG : MMa T G σ) : MMa T G τ := by
  intro m hm
  refine ⟨(h.1 _ _ (hR.1 _)).trans (hG m hm).1, fun g => ?_⟩
  obtain ⟨k1, k2, k3⟩ := (hG m hm).2 g
  exact ⟨MSk_r h h6 (fun j q1 q2 => hR.2 _ (by omega) (by omega)) k1, MWa_r h (fun j q1 q2 => hR.2 _ (by omega) (by omega)) k2, MTo_r h (hV m hm g).2.2.1 (fun j q1 q2 => hR.2 _ (by omega) (by omega)) k3⟩
theorem MTa_r {R : Nat → Nat → Prop} {Q : Nat × (Nat → Int32)} {σ τ : MM} (h : eqr R σ τ) (hR : ¬ R 249 2 ∧ ∀ j, ¬ R 250 j) (hQ : MTa Q σ) : MTa Q τ := ⟨(h.1 _ _ hR.1).trans hQ.1, fun i hi => (h.1 _ _ (hR.2 i)).trans (hQ.2 i hi)⟩
theorem MNa_r {R : Nat → Nat → Prop} {T : TW} {N : Nat → Nat → List Nat} {σ τ : MM} (h : eqr R σ τ) (hR : ¬ R 249 18 ∧ ∀ j, ¬ R 260 j) (hN : MNa T N σ) : MNa T N τ := by
  obtain ⟨k1, k2, K, k3, k4⟩ := hN
  refine ⟨fun i hi => by rw [h.2]; exact k1 i hi, (h.1 _ _ hR.1).trans k2, K, fun k hk => ?_, k4⟩
  rw [h.2, h.1 _ _ (hR.2 k)]
  exact k3 k hk
/-- another sky now, another past -/
def nwA (A : AB) (S : SK) (n : Nat) (H : Nat → SK) : AB := (A.1, (S, A.2.1.2), (n, H), A.2.2.2)
theorem CA_now {A : AB} {S : SK} {n : Nat} {H : Nat → SK} {R : Nat → Nat → Prop} {σ τ : MM} (h : CA A σ) (hq : eqr R σ τ) (hR : ∀ b j, R b j → b = 14 ∨ (38 ≤ b ∧ b ≤ 42) ∨ (48 ≤ b ∧ b ≤ 129)) (hS : CSk A.1 38 S τ) (hP : CPa A.1 n H τ) : CA (nwA A S n H) τ := by
  obtain ⟨h1, h2, h3, h4, h5, h6, h7⟩ := h
  have hr : ∀ b j, ¬ (b = 14 ∨ (38 ≤ b ∧ b ≤ 42) ∨ (48 ≤ b ∧ b ≤ 129)) → ¬ R b j := fun b j n q => n (hR b j q)
  exact ⟨CTn_r hq (fun b j _ _ => hr b j (by omega)) h1, ⟨hS, CWa_r hq (fun j => hr _ j (by omega)) h2.2.1, CTo_r hq ⟨hr _ _ (by omega), fun j => ⟨hr _ _ (by omega), hr _ _ (by omega), hr _ _ (by omega)⟩⟩ h2.2.2⟩, hP, CPl_r hq (fun b j _ => hr b j (by omega)) h4, CMa_r hq (fun b j _ _ => hr b j (by omega)) h5, CTa_r hq ⟨hr _ _ (by omega), fun j => hr _ _ (by omega)⟩ h6, CNa_r hq h7⟩
theorem MA_now {A : AB} {S : SK} {n : Nat} {H : Nat → SK} {R : Nat → Nat → Prop} {σ τ : MM} (hV : VA A) (h : MA A σ) (hq : eqr R σ τ) (hR : ∀ b j, R b j → b = 263 ∨ b = 264 ∨ (b = 265 ∧ (j < 19 ∨ 210 ≤ j)) ∨ (b = 249 ∧ (j = 0 ∨ j = 24))) (hS : MSk A.1 0 S τ) (hP : MPa A.1 n H τ) : MA (nwA A S n H) τ := by
  obtain ⟨h1, h2, h3, h4, h5, h6, h7⟩ := h
  have hr : ∀ b j, ¬ (b = 263 ∨ b = 264 ∨ (b = 265 ∧ (j < 19 ∨ 210 ≤ j)) ∨ (b = 249 ∧ (j = 0 ∨ j = 24))) → ¬ R b j := fun b j n q => n (hR b j q)
  exact ⟨MTn_r hq (fun b j _ _ => hr b j (by omega)) h1, ⟨hS, MWa_r hq (fun j _ _ => hr _ j (by omega)) h2.2.1, MTo_r hq hV.2.1.2.2.1 (fun j _ _ => hr _ _ (by omega)) h2.2.2⟩, hP, MPl_r hq hV.2.2.2.1.1 (fun j _ => hr _ j (by omega)) h4, MMa_r hV.1.1.2.2.1 hV.2.2.2.2.1 hq ⟨fun j => hr _ j (by omega), fun j _ _ => hr _ j (by omega)⟩ h5, MTa_r hq ⟨hr _ _ (by omega), fun j => hr _ _ (by omega)⟩ h6, MNa_r hq ⟨hr _ _ (by omega), fun j => hr _ _ (by omega)⟩ h7⟩
theorem VA_now {A : AB} {S : SK} {n : Nat} {H : Nat → SK} (hV : VA A) (hS : VSk A.1 S) (hH : ∀ i, i < n → VSk A.1 (H i)) : VA (nwA A S n H) := ⟨hV.1, ⟨hS, hV.2.1.2⟩, hH, hV.2.2.2⟩
/-- kept, and another sky now -/
def kpA (A : AB) (S : SK) : AB := nwA A S (kpn A.2.2.1.1) (kpH A.2.2.1.1 A.2.2.1.2 A.2.1.1)
theorem VA_kp {A : AB} {S : SK} (hV : VA A) (hn : A.2.2.1.1 ≤ 16) (hS : VSk A.1 S) : VA (kpA A S) := by
  refine VA_now hV hS (fun i hi => ?_)
  unfold kpH
  unfold kpn at hi
  by_cases q : A.2.2.1.1 = 16
  · rw [if_pos q] at hi ⊢
    by_cases q2 : i < 15
    · rw [if_pos q2]; exact hV.2.2.1 _ (by omega)
    · rw [if_neg q2]; exact hV.2.1.1
  · rw [if_neg q] at hi ⊢
    by_cases q2 : i < A.2.2.1.1
    · rw [if_pos q2]; exact hV.2.2.1 _ q2
    · rw [if_neg q2]; exact hV.2.1.1
theorem ofM_rf {σ : MM} : ofM σ σ := ⟨fun _ _ _ => rfl, fun _ _ _ => rfl⟩
theorem ofC_rf {σ : MM} : ofC σ σ := ⟨fun _ _ _ => rfl, fun _ _ _ => rfl⟩
theorem ofM_tr {σ τ υ : MM} (h1 : ofM σ τ) (h2 : ofM τ υ) : ofM σ υ := ⟨fun b j q => (h2.1 b j q).trans (h1.1 b j q), fun b j q => (h2.2 b j q).trans (h1.2 b j q)⟩
theorem ofC_tr {σ τ υ : MM} (h1 : ofC σ τ) (h2 : ofC τ υ) : ofC σ υ := ⟨fun b j q => (h2.1 b j q).trans (h1.1 b j q), fun b j q => (h2.2 b j q).trans (h1.2 b j q)⟩
/-- thrown = 0 -/
theorem m_th {α : Type} {A : AB} {σ : MM} {k : Unit → PP α} {P : α → MM → Prop} (hV : VA A) (hA : MA A σ) (h : ∀ τ, MA A τ → (∀ x υ, (ofM τ υ → P x υ) → ofM τ υ → P x υ) → ofM σ τ → wp (k ()) τ P) : wp (bd (sI 249 0 (0 : Int32)) k) σ P := by
  have hq : eqr (fun b j => b = 249 ∧ j = 0) σ (up2 σ.1 249 0 0, σ.2) := eqr_up (by omega)
  exact ws_s (h _ (MA_r hV hq (fun b j q _ => by unfold scM; omega) hA) (fun x υ h1 h2 => h1 h2) (ofM_r hq (fun b j q => by omega)))
theorem m_th2 {α : Type} {A A2 : AB} {σ : MM} {k : Unit → PP α} {r : α} (hV : VA A) (hA : MA A σ) (h : ∀ τ, MA A τ → wp (k ()) τ (fun y υ => y = r ∧ MA A2 υ ∧ ofM τ υ)) : wp (bd (sI 249 0 (0 : Int32)) k) σ (fun y υ => y = r ∧ MA A2 υ ∧ ofM σ υ) := by
  have hq : eqr (fun b j => b = 249 ∧ j = 0) σ (up2 σ.1 249 0 0, σ.2) := eqr_up (by omega)
  exact ws_s (wp_mono (h _ (MA_r hV hq (fun b j q _ => by unfold scM; omega) hA)) (fun y υ q => ⟨q.1, q.2.1, ofM_tr (ofM_r hq (fun b j q => by omega)) q.2.2⟩))
theorem bf {b : Bool} (h : ¬ b = true) : b2i b = 0 := by
  cases b
  · rfl
  · exact absurd rfl h
theorem bt {b : Bool} (h : b = true) : ¬ b2i b = 0 := by rw [h]; decide
theorem okB0 : okB 0 := by unfold okB; decide
/-! hang -/
def hgA (A : AB) (x y z : Int32) : AB := if chS A.1 A.2.1.1 x y z = true then kpA A (puS A.2.1.1 x.toNatClampNeg y z) else A
def hgR (A : AB) (x y z : Int32) : Int32 := if chS A.1 A.2.1.1 x y z = true then frS A.1 (puS A.2.1.1 x.toNatClampNeg y z) y.toNatClampNeg else -1
theorem ch_ok {T : TW} {S : SK} {x y z : Int32} (hV : VTn T) (h : chS T S x y z = true) : (x.toNatClampNeg < T.1 2 ∧ x = nI x.toNatClampNeg ∧ S 1 x.toNatClampNeg = -1) ∧ (y.toNatClampNeg < T.1 0 ∧ y = nI y.toNatClampNeg) ∧ (∃ q, q ≤ 3 ∧ z = nI q) ∧ ¬ z < 1 ∧ ¬ 3 < z ∧ ¬ frS T S y.toNatClampNeg < z := by
  have h5 := hV.1.1
  have h6 := hV.1.2.2.1
  unfold chS liS at h
  simp only [Bool.and_eq_true, decide_eq_true_eq] at h
  obtain ⟨⟨k1, k2⟩, k3, k4, k5, k6⟩ := h
  obtain ⟨l1, l2⟩ := inN_c (by omega) k1
  obtain ⟨l3, l4⟩ := inN_c (by omega) k3
  refine ⟨⟨l1, l2, k2⟩, ⟨l3, l4⟩, ?_, k4, k5, k6⟩
  rcases pk_ix z (show 4 < 2 ^ 31 by decide) with q | q | ⟨k, hk, q⟩
  · exact absurd (Int32.lt_trans q (by decide)) k4
  · exfalso
    apply k5
    have h1 := Int32.le_iff_toInt_le.mp q
    apply Int32.lt_iff_toInt_lt.mpr
    have e1 : (3 : Int32).toInt = 3 := rfl
    have e2 : (nI 4).toInt = 4 := rfl
    omega
  · exact ⟨k, by omega, q⟩
theorem VA_hg {A : AB} {σ : MM} {x y z : Int32} (hV : VA A) (hA : CA A σ) : VA (hgA A x y z) := by
  unfold hgA
  by_cases q : chS A.1 A.2.1.1 x y z = true
  · rw [if_pos q]
    obtain ⟨k1, k2, k3, -⟩ := ch_ok hV.1 q
    obtain ⟨nx, -, hn, -⟩ := hA.2.2.1
    exact VA_kp hV hn (VSk_pu hV.2.1.1 (Or.inr ⟨_, k2.1, k2.2⟩) k3)
  · rw [if_neg q]; exact hV
theorem c_hang {A : AB} {σ : MM} (hV : VA A) (hA : CA A σ) (x y z : Int32) : wp (FX11_hang 0 x y z) σ (fun r τ => r = hgR A x y z ∧ CA (hgA A x y z) τ ∧ ofC σ τ) := by
  have v6 := hV.1.1.2.2.1
  unfold FX11_hang hgR hgA
  rw [r0_5, r0_7]
  refine wp_eq (ks_canHang hA.1 o38 hA.2.1.1 x y z) ?_
  by_cases q : chS A.1 A.2.1.1 x y z = true
  · rw [if_pos q, if_pos q, if_neg (by rw [q]; decide)]
    obtain ⟨⟨k1, k2, k3⟩, ⟨k4, k5⟩, -⟩ := ch_ok hV.1 q
    refine wp_bd (ks_keep v6 hA.2.1.1 hA.2.2.1) ?_
    rintro _ τ ⟨hP, hq⟩
    have hS : CSk A.1 38 A.2.1.1 τ := CSk_r hq (fun j => by omega) (by omega) hA.2.1.1
    rw [k2]
    obtain ⟨υ, e, hS2, hq2⟩ := ks_putUp (l := y) (k := z) v6 o38 hS k1
    refine wp_eq e ?_
    have hq3 : eqr (fun r _ => (48 ≤ r ∧ r ≤ 129) ∨ r = 40 ∨ r = 41) σ υ := eqr_tr (eqr_mono hq (fun b j q => by omega)) (eqr_mono hq2 (fun b j q => by omega))
    have hT : CTn A.1 υ := CTn_r hq3 (fun b j _ _ => by omega) hA.1
    have e3 := ks_freeOn hT o38 hS2 k4
    rw [← k5] at e3
    refine wp_eq e3 (wp_pu ⟨?_, ?_, ofC_r hq3 (fun b j q => by omega)⟩)
    · rw [← k2]
    · rw [← k2]
      exact CA_now hA hq3 (fun b j q => by omega) hS2 (CPa_r hq2 (fun b j _ _ => by omega) hP)
  · rw [if_neg q, if_neg q, if_pos (by simp [q, b2i])]
    exact wp_pu ⟨rfl, hA, ofC_rf⟩
theorem m_hang {A : AB} {σ : MM} (hV : VA A) (hA : MA A σ) (x y z : Int32) : wp (FX12_hang 249 x y z) σ (fun r τ => r = hgR A x y z ∧ MA (hgA A x y z) τ ∧ ofM σ τ) := by
  have v6 := hV.1.1.2.2.1
  have v5 := hV.1.1.1
  unfold FX12_hang
  refine m_th2 hV hA ?_
  intro σ hA
  have no : ¬ chS A.1 A.2.1.1 x y z = true → wp (pu (-1 : Int32)) σ (fun r τ => r = hgR A x y z ∧ MA (hgA A x y z) τ ∧ ofM σ τ) := by
    intro q
    unfold hgR hgA
    rw [if_neg q, if_neg q]
    exact wp_pu ⟨rfl, hA, ofM_rf⟩
  refine wp_eq (m_isCloth hA.1.1 x) ?_
  by_cases q1 : inN x (A.1.1 2) = true
  · rw [if_neg (by rw [q1]; decide)]
    refine wp_eq (m_isLine hA.1.1 y) ?_
    by_cases q2 : inN y (A.1.1 0) = true
    · rw [if_neg (by rw [q2]; decide)]
      refine wp_eq (ms_within z 1 3 σ) ?_
      by_cases q3 : (decide (¬ z < 1) && decide (¬ 3 < z)) = true
      · rw [if_neg (by rw [q3]; decide)]
        simp only [Bool.and_eq_true, decide_eq_true_eq] at q3
        obtain ⟨l1, l2⟩ := inN_c (by omega) q1
        obtain ⟨l3, l4⟩ := inN_c (by omega) q2
        have e := ms_mayHang hV.1 hA.1 okB0 hA.2.1.1 hV.2.1.1 l1 l3 z
        rw [← l2, ← l4] at e
        refine wp_eq e ?_
        by_cases q4 : chS A.1 A.2.1.1 x y z = true
        · obtain ⟨⟨k1, k2, k3⟩, ⟨k4, k5⟩, -, -, -, k6⟩ := ch_ok hV.1 q4
          rw [if_neg (by simp [k3, k6, b2i])]
          unfold hgR hgA
          rw [if_pos q4, if_pos q4]
          refine wp_bd (ms_keeps v6 hA.2.1.1 hA.2.2.1) ?_
          rintro _ τ ⟨hP, hq⟩
          have hS : MSk A.1 0 A.2.1.1 τ := MSk_r hq v6 (fun j _ _ => by omega) hA.2.1.1
          obtain ⟨υ, e, hS2, hq2⟩ := ms_hangs (l := y) (k := z) v6 okB0 hS k1
          rw [← k2] at e
          refine wp_eq e ?_
          have hq3 : eqr (fun b j => (b = 265 ∧ (j < 19 ∨ 210 ≤ j)) ∨ (b = 249 ∧ (j = 0 ∨ j = 24))) σ υ := eqr_tr (eqr_mono hq (fun b j q => by omega)) (eqr_mono hq2 (fun b j q => by omega))
          have hT : MTn A.1 υ := MTn_r hq3 (fun b j _ _ => by omega) hA.1
          have e3 := ms_freeOf hT okB0 hS2 k4
          rw [← k5] at e3
          refine wp_eq e3 (wp_pu ⟨rfl, ?_, ofM_r hq3 (fun b j q => by omega)⟩)
          exact MA_now hV hA hq3 (fun b j q => by omega) hS2 (MPa_r v6 hq2 (fun j _ _ => by omega) (by omega) hP)
        · rw [if_pos]
          · exact no q4
          · have : ¬ ((decide (A.2.1.1 1 x.toNatClampNeg = -1) && decide (¬ frS A.1 A.2.1.1 y.toNatClampNeg < z)) = true) := by
              intro z1
              apply q4
              simp only [Bool.and_eq_true, decide_eq_true_eq] at z1
              unfold chS liS
              simp only [Bool.and_eq_true, decide_eq_true_eq]
              exact ⟨⟨q1, z1.1⟩, q2, q3.1, q3.2, z1.2⟩
            exact bf this
      · rw [if_pos (bf q3)]
        refine no (fun z1 => q3 ?_)
        obtain ⟨-, -, -, k4, k5, -⟩ := ch_ok hV.1 z1
        simp [k4, k5]
    · rw [if_pos (bf q2)]
      refine no (fun z1 => q2 ?_)
      unfold chS liS at z1
      simp only [Bool.and_eq_true] at z1
      exact z1.2.1
  · rw [if_pos (bf q1)]
    refine no (fun z1 => q1 ?_)
    unfold chS liS at z1
    simp only [Bool.and_eq_true] at z1
    exact z1.1.1
theorem ok_6 {σ : MM} (h : Inv σ) (q : Nat → Int32) : okC (fun chk => TL_6 chk q) σ := by
  obtain ⟨A, hV, hC, hM⟩ := h
  exact okC_of (eq := fun x y => x = y) rfl hV (VA_hg hV hC) hM (c_hang hV hC (q 1) (q 2) (q 3)) (fun τ hM => m_hang hV hM (q 1) (q 2) (q 3))
