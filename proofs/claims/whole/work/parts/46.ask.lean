/-! ===== what is asked of now ===== -/
theorem wi_ex {x M : Int32} {n : Nat} (hM : M.toInt = n) (h : (decide (¬ x < 0) && decide (¬ M < x)) = true) : ∃ j, j ≤ n ∧ x = nI j := by
  simp only [Bool.and_eq_true, decide_eq_true_eq] at h
  exact nI_of2 hM h.1 (Int32.not_lt.mp h.2)
theorem wi_no {x M : Int32} {n : Nat} (hn : n < 2 ^ 31) (hM : M = nI n) (h : ¬ (decide (¬ x < 0) && decide (¬ M < x)) = true) (k : Nat) (hk : k ≤ n) : ¬ x = nI k := by
  intro e
  apply h
  subst e
  subst hM
  simp only [Bool.and_eq_true, decide_eq_true_eq]
  exact ⟨nI_pos (by omega), fun q => absurd ((nI_ltI (by omega) (by omega)).mp q) (by omega)⟩
/-- a call of the class that answers and changes nothing that counts -/
theorem cq_of {α : Type} {C : PP α} {A : AB} {σ τ : MM} {r : α} {R : Nat → Nat → Prop} (hA : CA A σ) (e : C σ = some (r, τ)) (hq : eqr R σ τ) (hR : ∀ b j, R b j → b < 249 ∧ scC b j) : wp C σ (fun x τ => x = r ∧ CA A τ ∧ ofC σ τ) :=
  ⟨r, τ, e, rfl, CA_r hq (fun b j q _ => (hR b j q).2) hA, ofC_r hq (fun b j q z => by have := (hR b j z).1; omega)⟩
theorem cq_w {α : Type} {C : PP α} {A : AB} {σ : MM} {r : α} {R : Nat → Nat → Prop} (hA : CA A σ) (h : wp C σ (fun x τ => x = r ∧ eqr R σ τ)) (hR : ∀ b j, R b j → b < 249 ∧ scC b j) : wp C σ (fun x τ => x = r ∧ CA A τ ∧ ofC σ τ) := by
  obtain ⟨x, τ, e, rfl, hq⟩ := h
  exact cq_of hA e hq hR
theorem cq_s {α : Type} {C : PP α} {A : AB} {σ : MM} {r : α} (hA : CA A σ) (e : C σ = some (r, σ)) : wp C σ (fun x τ => x = r ∧ CA A τ ∧ ofC σ τ) := ⟨r, σ, e, rfl, hA, ofC_rf⟩
theorem mq_s {α : Type} {A : AB} {σ : MM} {k : Unit → PP α} {r : α} (hV : VA A) (hA : MA A σ) (h : ∀ τ, MA A τ → k () τ = some (r, τ)) : wp (bd (sI 249 0 (0 : Int32)) k) σ (fun y υ => y = r ∧ MA A υ ∧ ofM σ υ) := m_th2 hV hA (fun τ hA => ⟨r, τ, h τ hA, rfl, hA, ofM_rf⟩)
theorem mq_w {α : Type} {A : AB} {σ : MM} {k : Unit → PP α} {r : α} {R : Nat → Nat → Prop} (hV : VA A) (hA : MA A σ) (h : ∀ τ, MA A τ → wp (k ()) τ (fun y υ => y = r ∧ eqr R τ υ)) (hR : ∀ b j, R b j → 249 ≤ b ∧ scM b j) : wp (bd (sI 249 0 (0 : Int32)) k) σ (fun y υ => y = r ∧ MA A υ ∧ ofM σ υ) := by
  refine m_th2 hV hA (fun τ hA => ?_)
  obtain ⟨y, υ, e, rfl, hq⟩ := h τ hA
  exact ⟨y, υ, e, rfl, MA_r hV hq (fun b j q _ => (hR b j q).2) hA, ofM_r hq (fun b j q z => by have := (hR b j z).1; omega)⟩
/-! line -/
def lnR (A : AB) (x y : Int32) : Int32 := if inN x (A.1.1 0) = true then (if y = 0 then A.1.2 0 x.toNatClampNeg else if y = 1 then frS A.1 A.2.1.1 x.toNatClampNeg else if y = 2 then onS A.1 A.2.1.1 x else if y = 3 then A.1.2 1 x.toNatClampNeg else -1) else -1
theorem c_line {A : AB} {σ : MM} (hV : VA A) (hA : CA A σ) (x y : Int32) : FX11_line 0 x y σ = some (lnR A x y, σ) := by
  have v5 := hV.1.1.1
  unfold FX11_line lnR
  rw [r0_1, r0_5, r3_3, r3_4, ev_bd (c_hasLine hA.1.1 x)]
  by_cases q : inN x (A.1.1 0) = true
  · obtain ⟨k, hk, rfl⟩ := inN_ex (by omega) q
    rw [if_neg (bt q), if_pos q, cl_n (by omega)]
    have e0 := ev_aI (a := 7) (n := 5) (σ := σ) (show k < 5 by omega) (by decide)
    rw [(hA.1.2.1 k hk).1] at e0
    have e3 := ev_aI (a := 8) (n := 5) (σ := σ) (show k < 5 by omega) (by decide)
    rw [(hA.1.2.1 k hk).2] at e3
    have e1 := ks_freeOn hA.1 o38 hA.2.1.1 hk
    have e2 := ks_clothsOn hA.1 o38 hA.2.1.1 (nI k)
    by_cases y0 : y = 0
    · simp [tsw, bd, pu, y0, e0]
    by_cases y1 : y = 1
    · simp [tsw, bd, pu, y1, e1]
    by_cases y2 : y = 2
    · simp [tsw, bd, pu, y2, e2]
    by_cases y3 : y = 3
    · simp [tsw, bd, pu, y3, e3]
    simp [tsw, pu, y0, y1, y2, y3]
  · rw [if_pos (bf q), if_neg q]
    rfl
theorem m_line {A : AB} {σ : MM} (hV : VA A) (hA : MA A σ) (x y : Int32) : wp (FX12_line 249 x y) σ (fun r υ => r = lnR A x y ∧ MA A υ ∧ ofM σ υ) := by
  have v5 := hV.1.1.1
  unfold FX12_line
  refine mq_s hV hA (fun σ hA => ?_)
  unfold lnR
  rw [ev_bd (m_isLine hA.1.1 x)]
  by_cases q : inN x (A.1.1 0) = true
  · obtain ⟨k, hk, rfl⟩ := inN_ex (by omega) q
    rw [if_neg (bt q), if_pos q, cl_n (by omega), ev_bd (ms_within y 0 3 σ)]
    have e0 : FX12_lineOf 249 (nI k) (0 : Int32) σ = some (A.1.2 0 k, σ) := by
      have := m_lineOf (σ := σ) (l := k) (w := 0) (by omega) (by decide)
      rw [show 4 + 2 * k + 0 = 4 + 2 * k by omega, (hA.1.2.1 k hk).1] at this
      exact this
    have e3 : FX12_lineOf 249 (nI k) (1 : Int32) σ = some (A.1.2 1 k, σ) := by
      have := m_lineOf (σ := σ) (l := k) (w := 1) (by omega) (by decide)
      rw [show 4 + 2 * k + 1 = 5 + 2 * k by omega, (hA.1.2.1 k hk).2] at this
      exact this
    have e1 : FX12_freeOf 249 (0 : Int32) (nI k) σ = some (frS A.1 A.2.1.1 k, σ) := ms_freeOf hA.1 okB0 hA.2.1.1 hk
    have e2 : FX12_onLine 249 (0 : Int32) (nI k) σ = some (onS A.1 A.2.1.1 (nI k), σ) := ms_onLine hA.1 okB0 hA.2.1.1 (nI k)
    by_cases w : (decide (¬ y < 0) && decide (¬ 3 < y)) = true
    · rw [if_neg (bt w)]
      obtain ⟨j, hj, rfl⟩ := wi_ex (n := 3) rfl w
      rcases (show j = 0 ∨ j = 1 ∨ j = 2 ∨ j = 3 by omega) with rfl | rfl | rfl | rfl
      · simp [bd, pu, e0, show nI 0 = (0 : Int32) from rfl]
      · simp [bd, pu, e1, show nI 1 = (1 : Int32) from rfl]
      · simp [bd, pu, e2, show nI 2 = (2 : Int32) from rfl]
      · simp [bd, pu, e3, show nI 3 = (3 : Int32) from rfl]
    · rw [if_pos (bf w)]
      have n := wi_no (n := 3) (by decide) rfl w
      rw [if_neg (show ¬ y = 0 from n 0 (by decide)), if_neg (show ¬ y = 1 from n 1 (by decide)), if_neg (show ¬ y = 2 from n 2 (by decide)), if_neg (show ¬ y = 3 from n 3 (by decide))]
      rfl
  · rw [if_pos (bf q), if_neg q]
    rfl
theorem ok_3 {σ : MM} (h : Inv σ) (q : Nat → Int32) : okC (fun chk => TL_3 chk q) σ := by
  obtain ⟨A, hV, hC, hM⟩ := h
  exact okC_of (eq := fun x y => x = y) rfl hV hV hM (cq_s hC (c_line hV hC (q 1) (q 2))) (fun τ hM => m_line hV hM (q 1) (q 2))
/-! cloth -/
def clR (A : AB) (x y : Int32) : Int32 := if inN x (A.1.1 2) = true then (if y = 0 then A.1.2 3 x.toNatClampNeg else if y = 1 then A.2.1.1 0 x.toNatClampNeg else if y = 2 then A.2.1.1 1 x.toNatClampNeg else if y = 3 then A.2.1.1 2 x.toNatClampNeg else if y = 4 then A.1.2 4 x.toNatClampNeg else -2) else -2
theorem c_cloth {A : AB} {σ : MM} (hV : VA A) (hA : CA A σ) (x y : Int32) : FX11_cloth 0 x y σ = some (clR A x y, σ) := by
  have v6 := hV.1.1.2.2.1
  unfold FX11_cloth clR
  rw [r0_1, r0_5, r3_6, r3_7, r38_1, r38_2, r38_3, ev_bd (c_hasCloth hA.1.1 x)]
  by_cases q : inN x (A.1.1 2) = true
  · obtain ⟨k, hk, rfl⟩ := inN_ex (by omega) q
    rw [if_neg (bt q), if_pos q, cl_n (by omega)]
    obtain ⟨s1, s2, s3⟩ := hA.2.1.1.2 k hk
    have e0 := ev_aI (a := 10) (n := 6) (σ := σ) (show k < 6 by omega) (by decide)
    rw [(hA.1.2.2.2.1 k hk).1] at e0
    have e4 := ev_aI (a := 11) (n := 6) (σ := σ) (show k < 6 by omega) (by decide)
    rw [(hA.1.2.2.2.1 k hk).2] at e4
    have e1 := ev_aI (a := 39) (n := 6) (σ := σ) (show k < 6 by omega) (by decide)
    rw [s1] at e1
    have e2 := ev_aI (a := 40) (n := 6) (σ := σ) (show k < 6 by omega) (by decide)
    rw [s2] at e2
    have e3 := ev_aI (a := 41) (n := 6) (σ := σ) (show k < 6 by omega) (by decide)
    rw [s3] at e3
    by_cases y0 : y = 0
    · simp [tsw, bd, pu, y0, e0]
    by_cases y1 : y = 1
    · simp [tsw, bd, pu, y1, e1]
    by_cases y2 : y = 2
    · simp [tsw, bd, pu, y2, e2]
    by_cases y3 : y = 3
    · simp [tsw, bd, pu, y3, e3]
    by_cases y4 : y = 4
    · simp [tsw, bd, pu, y4, e4]
    simp [tsw, pu, y0, y1, y2, y3, y4]
  · rw [if_pos (bf q), if_neg q]
    rfl
theorem m_cloth {A : AB} {σ : MM} (hV : VA A) (hA : MA A σ) (x y : Int32) : wp (FX12_cloth 249 x y) σ (fun r υ => r = clR A x y ∧ MA A υ ∧ ofM σ υ) := by
  have v6 := hV.1.1.2.2.1
  unfold FX12_cloth
  refine mq_s hV hA (fun σ hA => ?_)
  unfold clR
  rw [r249_23, ev_bd (m_isCloth hA.1.1 x)]
  by_cases q : inN x (A.1.1 2) = true
  · obtain ⟨k, hk, rfl⟩ := inN_ex (by omega) q
    rw [if_neg (bt q), if_pos q, cl_n (by omega), ev_bd (ms_within y 0 4 σ)]
    obtain ⟨s1, s2, s3⟩ := hA.2.1.1.2 k hk
    have e0 := ms_kind hV.1 hA.1 hk
    have e4 := ms_soaked hV.1 hA.1 hk
    have i1 : (1 : Int32) + nI k = nI (0 + 1 + k) := nI_add 1 k
    have i2 : (7 : Int32) + nI k = nI (0 + 7 + k) := nI_add 7 k
    have i3 : (13 : Int32) + nI k = nI (0 + 13 + k) := nI_add 13 k
    have e1 := ev_aI (a := 265) (n := 966) (σ := σ) (show 0 + 1 + k < 966 by omega) (by decide)
    rw [s1] at e1
    have e2 := ev_aI (a := 265) (n := 966) (σ := σ) (show 0 + 7 + k < 966 by omega) (by decide)
    rw [s2] at e2
    have e3 := ev_aI (a := 265) (n := 966) (σ := σ) (show 0 + 13 + k < 966 by omega) (by decide)
    rw [s3] at e3
    rw [← i1] at e1
    rw [← i2] at e2
    rw [← i3] at e3
    by_cases w : (decide (¬ y < 0) && decide (¬ 4 < y)) = true
    · rw [if_neg (bt w)]
      obtain ⟨j, hj, rfl⟩ := wi_ex (n := 4) rfl w
      rcases (show j = 0 ∨ j = 1 ∨ j = 2 ∨ j = 3 ∨ j = 4 by omega) with rfl | rfl | rfl | rfl | rfl
      · simp [tsw, bd, pu, e0, show nI 0 = (0 : Int32) from rfl]
      · simp [tsw, bd, pu, e1, show nI 1 = (1 : Int32) from rfl]
      · simp [tsw, bd, pu, e2, show nI 2 = (2 : Int32) from rfl]
      · simp [tsw, bd, pu, e3, show nI 3 = (3 : Int32) from rfl]
      · simp [tsw, bd, pu, e4, show nI 4 = (4 : Int32) from rfl]
    · rw [if_pos (bf w)]
      have n := wi_no (n := 4) (by decide) rfl w
      rw [if_neg (show ¬ y = 0 from n 0 (by decide)), if_neg (show ¬ y = 1 from n 1 (by decide)), if_neg (show ¬ y = 2 from n 2 (by decide)), if_neg (show ¬ y = 3 from n 3 (by decide)), if_neg (show ¬ y = 4 from n 4 (by decide))]
      rfl
  · rw [if_pos (bf q), if_neg q]
    rfl
theorem ok_4 {σ : MM} (h : Inv σ) (q : Nat → Int32) : okC (fun chk => TL_4 chk q) σ := by
  obtain ⟨A, hV, hC, hM⟩ := h
  exact okC_of (eq := fun x y => x = y) rfl hV hV hM (cq_s hC (c_cloth hV hC (q 1) (q 2))) (fun τ hM => m_cloth hV hM (q 1) (q 2))
/-! place -/
theorem wst_ex (h : Nat → Int32) : ∀ i, i ≤ 4 → (wst h i).1 = -1 ∨ ∃ k, k < 4 ∧ (wst h i).1 = nI k
  | 0, _ => Or.inl rfl
  | i + 1, hi => by
    show (if h (rk i) ≤ (wst h i).2 then wst h i else (nI (rk i), h (rk i))).1 = -1 ∨ _
    by_cases q : h (rk i) ≤ (wst h i).2
    · simp only [wst, q, if_true]; exact wst_ex h i (by omega)
    · simp only [wst, q, if_false]; exact Or.inr ⟨rk i, rk_lt i (by omega), rfl⟩
theorem wx_ex (T : TW) (S : SK) (p : Nat) (out : Int32) : (wxS T S p out).1 = -1 ∨ ∃ k, k < 4 ∧ (wxS T S p out).1 = nI k := wst_ex _ 4 (Nat.le_refl 4)
theorem we_ex (T : TW) (S : SK) (p : Nat) : weS T S p = -1 ∨ ∃ k, k < 4 ∧ weS T S p = nI k := wx_ex T S p 0
theorem nn1 {k : Nat} (h : k < 4) : ¬ nI k = -1 := fun e => absurd (show nI k < 0 by rw [e]; decide) (nI_pos (by omega))
def stS (T : TW) (S : SK) (p : Nat) : Int32 := if weS T S p = -1 then 0 else cnS T S p 0 (weS T S p).toNatClampNeg
def plR (A : AB) (x y : Int32) : Int32 := if inN x (A.1.1 1) = true then (if y = 0 then weS A.1 A.2.1.1 x.toNatClampNeg else if y = 1 then stS A.1 A.2.1.1 x.toNatClampNeg else if y = 2 then wdS A.1 A.2.1.1 x.toNatClampNeg else if y = 3 then A.1.2 2 x.toNatClampNeg else -2) else -2
theorem ks_strength {T : TW} {S : SK} {σ : MM} {a p : Nat} (hV : VTn T) (hT : CTn T σ) (h : ob a 4) (hS : CSk T a S σ) (hp : p < T.1 1) : ∃ τ, FX4_strength a (nI p) σ = some (stS T S p, τ) ∧ eqr (fun b _ => b = a + 4) σ τ := by
  obtain ⟨τ, e, hq, hc⟩ := ks_weather hV hT h hS hp 0
  refine ⟨τ, ?_, hq⟩
  unfold FX4_strength
  rw [sk4 h, ev_bd e]
  show bd (if weS T S p = -1 then _ else bd (aI (a + 4) 4 (weS T S p)) _) _ τ = _
  unfold stS
  rcases we_ex T S p with q | ⟨k, hk, q⟩
  · rw [if_pos q, if_pos q]; rfl
  · have e2 := ev_aI (a := a + 4) (n := 4) (σ := τ) hk (by decide)
    rw [hc k hk] at e2
    rw [q, if_neg (nn1 hk), if_neg (nn1 hk), cl_n (by omega)]
    simp [bd, e2, pu]
theorem c_place {A : AB} {σ : MM} (hV : VA A) (hA : CA A σ) (x y : Int32) : wp (FX11_place 0 x y) σ (fun r τ => r = plR A x y ∧ eqr (fun b _ => b = 42) σ τ) := by
  have v4 := hV.1.1.2.1
  unfold FX11_place plR
  rw [r0_1, r0_5, r3_5]
  refine wp_eq (c_hasPlace hA.1.1 x) ?_
  by_cases q : inN x (A.1.1 1) = true
  · obtain ⟨k, hk, rfl⟩ := inN_ex (by omega) q
    rw [if_neg (bt q), if_pos q, cl_n (by omega)]
    have e3 := ev_aI (a := 9) (n := 4) (σ := σ) (show k < 4 by omega) (by decide)
    rw [hA.1.2.2.1 k hk] at e3
    have e2 := ks_wind hA.1 o38 hA.2.1.1 hk
    obtain ⟨τ0, e0, q0, -⟩ := ks_weather hV.1 hA.1 o38 hA.2.1.1 hk 0
    obtain ⟨τ1, e1, q1⟩ := ks_strength hV.1 hA.1 o38 hA.2.1.1 hk
    have e0' : FX4_weather 38 (nI k) 0 σ = some (weS A.1 A.2.1.1 k, τ0) := e0
    by_cases y0 : y = 0
    · exact ⟨_, τ0, by simp [tsw, bd, pu, y0, e0']; rfl, by rw [if_pos y0], q0⟩
    by_cases y1 : y = 1
    · exact ⟨_, τ1, by simp [tsw, bd, pu, y1, e1]; rfl, by rw [if_neg y0, if_pos y1], q1⟩
    by_cases y2 : y = 2
    · exact ⟨_, σ, by simp [tsw, bd, pu, y2, e2]; rfl, by rw [if_neg y0, if_neg y1, if_pos y2], eqr_rf⟩
    by_cases y3 : y = 3
    · exact ⟨_, σ, by simp [tsw, bd, pu, y3, e3]; rfl, by rw [if_neg y0, if_neg y1, if_neg y2, if_pos y3], eqr_rf⟩
    refine ⟨-2, σ, by simp [tsw, pu, y0, y1, y2, y3], ?_, eqr_rf⟩
    rw [if_neg y0, if_neg y1, if_neg y2, if_neg y3]
  · rw [if_pos (bf q), if_neg q]
    exact wp_pu ⟨rfl, eqr_rf⟩
theorem m_place {A : AB} {σ : MM} (hV : VA A) (hA : MA A σ) (x y : Int32) : wp (FX12_place 249 x y) σ (fun r υ => r = plR A x y ∧ MA A υ ∧ ofM σ υ) := by
  have v4 := hV.1.1.2.1
  unfold FX12_place
  refine mq_s hV hA (fun σ hA => ?_)
  unfold plR
  rw [r249_10, ev_bd (m_isPlace hA.1.1 x)]
  by_cases q : inN x (A.1.1 1) = true
  · obtain ⟨k, hk, rfl⟩ := inN_ex (by omega) q
    rw [if_neg (bt q), if_pos q, cl_n (by omega), ev_bd (ms_within y 0 3 σ)]
    have e0 : FX12_weatherOf 249 (0 : Int32) (nI k) σ = some (weS A.1 A.2.1.1 k, σ) := ms_weather hV.1 hA.1 okB0 hA.2.1.1 hV.2.1.1 hk
    have e2 := ms_wind hV.1 hA.1 hA.2.1.1 hV.2.1.1 hk
    have i3 : (14 : Int32) + nI k = nI (14 + k) := nI_add 14 k
    have e3 := ev_aI (a := 255) (n := 80) (σ := σ) (show 14 + k < 80 by omega) (by decide)
    rw [hA.1.2.2.1 k hk, ← i3] at e3
    by_cases w : (decide (¬ y < 0) && decide (¬ 3 < y)) = true
    · rw [if_neg (bt w), ev_bd e0]
      obtain ⟨j, hj, rfl⟩ := wi_ex (n := 3) rfl w
      rcases (show j = 0 ∨ j = 1 ∨ j = 2 ∨ j = 3 by omega) with rfl | rfl | rfl | rfl
      · simp [bd, pu, show nI 0 = (0 : Int32) from rfl]
      · rcases we_ex A.1 A.2.1.1 k with z | ⟨t, ht, z⟩
        · simp [bd, pu, show nI 1 = (1 : Int32) from rfl, z, stS, show ¬ (0 : Int32) ≤ -1 by decide]
        · have e1 : FX12_howMany 249 (0 : Int32) (nI k) (nI t) σ = some (cnS A.1 A.2.1.1 k 0 t, σ) := ms_howMany hV.1 hA.1 okB0 hA.2.1.1 hV.2.1.1 hk
          simp [bd, pu, show nI 1 = (1 : Int32) from rfl, z, stS, nn1 ht, e1, nI_pos' (show t < 2 ^ 31 by omega), cl_n (show t < 2 ^ 31 by omega)]
      · simp [bd, pu, e2, show nI 2 = (2 : Int32) from rfl]
      · simp [bd, pu, e3, show nI 3 = (3 : Int32) from rfl]
    · rw [if_pos (bf w)]
      have n := wi_no (n := 3) (by decide) rfl w
      rw [if_neg (show ¬ y = 0 from n 0 (by decide)), if_neg (show ¬ y = 1 from n 1 (by decide)), if_neg (show ¬ y = 2 from n 2 (by decide)), if_neg (show ¬ y = 3 from n 3 (by decide))]
      rfl
  · rw [if_pos (bf q), if_neg q]
    rfl
theorem ok_5 {σ : MM} (h : Inv σ) (q : Nat → Int32) : okC (fun chk => TL_5 chk q) σ := by
  obtain ⟨A, hV, hC, hM⟩ := h
  exact okC_of (eq := fun x y => x = y) rfl hV hV hM (cq_w hC (c_place hV hC (q 1) (q 2)) (fun b j z => by unfold scC; omega)) (fun τ hM => m_place hV hM (q 1) (q 2))
