/-! ===== count, same, storm ===== -/
def smF (f : Nat → Int32) : Nat → Int32
  | 0 => 0
  | k + 1 => smF f k + f k
theorem btF_ext {p : Nat → Bool} {n : Nat} : ∀ {m : Nat}, n ≤ m → (∀ k, n ≤ k → k < m → p k = false) → btF p m = btF p n
  | 0, h, _ => by
    have : n = 0 := by omega
    rw [this]
  | m + 1, h, hp => by
    by_cases q : n = m + 1
    · rw [q]
    · show btF p m ||| (if p m = true then _ else 0) = _
      rw [btF_ext (n := n) (m := m) (by omega) (fun k h1 h2 => hp k h1 (by omega)), hp m (by omega) (by omega)]
      simp
theorem ks_freeAll {T : TW} {S : SK} {σ : MM} {a : Nat} (hT : CTn T σ) (h : ob a 4) (hS : CSk T a S σ) : FX4_freeInAll a σ = some (smF (frS T S) (T.1 0), σ) := by
  have h5 := hT.1.2.2.2.1
  have h1 := hT.1.1
  unfold FX4_freeInAll
  rw [sk0 h]
  refine (bd_it (fun k => (smF (frS T S) k, nI k)) (T.1 0) rfl ?_ ?_ (by omega)).trans rfl
  · intro k hk
    have e1 := ks_freeOn hT h hS hk
    simp [bd, gI, h1, nle_n hk (by omega), e1, smF, lt, pu, nI_1]
  · refine (ev_bd (show gI 3 9 σ = some (nI (T.1 0), σ) by unfold gI; rw [h1])).trans ?_
    rw [if_pos (le_nn (by omega))]
    rfl
theorem ms_freeNow {T : TW} {S : SK} {σ : MM} (hT : MTn T σ) (hS : MSk T 0 S σ) : FX12_freeNow 249 σ = some (smF (frS T S) (T.1 0), σ) := by
  have h5 := hT.1.2.2.2.1
  have hc := ms_lines hT
  unfold FX12_freeNow
  refine (bd_it (fun k => (smF (frS T S) k, nI k)) (T.1 0) rfl ?_ ?_ (by omega)).trans rfl
  · intro k hk
    have e1 : FX12_freeOf 249 (0 : Int32) (nI k) σ = some (frS T S k, σ) := ms_freeOf hT okB0 hS hk
    simp [bd, hc, nle_n hk (by omega), e1, smF, lt, pu, nI_1]
  · refine (ev_bd hc).trans ?_
    rw [if_pos (le_nn (by omega))]
    rfl
def wpS (n : Nat) (W : Nat → Int32) : Int32 := btF (fun p => decide (¬ W p = -2)) n
theorem ks_wanted {T : TW} {W : Nat → Int32} {σ : MM} (h4 : T.1 1 ≤ 4) (hv : VWa T W) (hW : CWa 131 W σ) : FX9_wantedPlaces 130 σ = some (wpS (T.1 1) W, σ) := by
  have e : wpS (T.1 1) W = wpS 4 W := by
    unfold wpS
    rw [btF_ext (n := T.1 1) (m := 4) h4 (fun k h1 h2 => by simp [(hv k h2).2 h1])]
  rw [e]
  unfold FX9_wantedPlaces
  rw [r130_0]
  refine (bd_it (fun k => (wpS k W, nI k)) 4 rfl ?_ ?_ (by omega)).trans rfl
  · intro k hk
    have e1 := ev_aI (a := 131) (n := 4) (σ := σ) hk (by decide)
    rw [hW k hk] at e1
    have e2 : ¬ (4 : Int32) ≤ nI k := nle_n hk (by decide)
    by_cases q : W k = -2 <;> simp [bd, e2, e1, q, wpS, btF, lt, pu, nI_1]
  · rw [if_pos (show (4 : Int32) ≤ nI 4 by decide)]
    rfl
theorem ms_wanted {T : TW} {W : Nat → Int32} {σ : MM} (hT : MTn T σ) (hW : MWa 0 W σ) : FX12_wantedNow 249 σ = some (wpS (T.1 1) W, σ) := by
  have h4 := hT.1.2.2.2.2.1
  have hc := ms_places hT
  unfold FX12_wantedNow
  rw [r249_23]
  refine (bd_it (fun k => (wpS k W, nI k)) (T.1 1) rfl ?_ ?_ (by omega)).trans rfl
  · intro k hk
    have i1 : (19 : Int32) + nI k = nI (0 + 19 + k) := nI_add 19 k
    have e1 := ev_aI (a := 265) (n := 966) (σ := σ) (show 0 + 19 + k < 966 by omega) (by decide)
    rw [hW k (by omega), ← i1] at e1
    by_cases q : W k = -2 <;> simp [bd, hc, nle_n hk (by omega), e1, q, wpS, btF, lt, pu, nI_1]
  · refine (ev_bd hc).trans ?_
    rw [if_pos (le_nn (by omega))]
    rfl
theorem ms_wetNow {T : TW} {S : SK} {σ : MM} (hV : VTn T) (hT : MTn T σ) (hS : MSk T 0 S σ) : FX12_wetNow 249 σ = some (wnS T S, σ) := by
  have h6 := hT.1.2.2.2.2.2
  have hc := ms_cloths hT
  unfold FX12_wetNow
  refine (bd_it (fun k => (btF (fun k => decide (¬ S 0 k ≤ 0)) k, nI k)) (T.1 2) rfl ?_ ?_ (by omega)).trans rfl
  · intro k hk
    have e1 : FX12_isWet 249 (0 : Int32) (nI k) σ = some (decide (¬ S 0 k ≤ 0), σ) := ms_isWet hV okB0 hS hk
    by_cases q : S 0 k ≤ 0 <;> simp [bd, hc, nle_n hk (by omega), e1, q, btF, lt, pu, nI_1, b2i]
  · refine (ev_bd hc).trans ?_
    rw [if_pos (le_nn (by omega))]
    rfl
def coR (A : AB) (y : Int32) : Int32 := if y = 0 then nI (A.1.1 0) else if y = 1 then nI (A.1.1 1) else if y = 2 then nI (A.1.1 2) else if y = 3 then A.2.1.1 3 0 else if y = 4 then hgS A.1 A.2.1.1 else if y = 5 then wnS A.1 A.2.1.1 else if y = 6 then smF (frS A.1 A.2.1.1) (A.1.1 0) else if y = 7 then wpS (A.1.1 1) A.2.1.2.1 else if y = 8 then nI A.2.2.2.1.1 else if y = 9 then nI A.2.1.2.2.1 else if y = 10 then nI A.2.2.1.1 else if y = 11 then nI A.2.2.2.2.2.1.1 else -1
theorem c_count {A : AB} {σ : MM} (hV : VA A) (hA : CA A σ) (y : Int32) : FX11_count 0 y σ = some (coR A y, σ) := by
  unfold FX11_count coR
  rw [r0_0, r0_1, r0_3, r0_5, r0_7, r0_8, r0_9]
  obtain ⟨h1, h2, h3, h4, h5, h6, h7⟩ := hA
  obtain ⟨t1, t2, t3, -⟩ := h1.1
  obtain ⟨nx, -, -, p1, -⟩ := h3
  have e4 := ks_hanging h1 o38 h2.1
  have e5 := ks_wetOnes h1 o38 h2.1
  have e6 := ks_freeAll h1 o38 h2.1
  have e7 := ks_wanted hV.1.1.2.1 hV.2.1.2.1 h2.2.1
  have e3 := h2.1.1
  have e8 := h4.1
  have e9 := h2.2.2.1
  have e11 := h6.1
  by_cases y0 : y = 0
  · simp [tsw, bd, pu, gI, y0, t1]
  by_cases y1 : y = 1
  · simp [tsw, bd, pu, gI, y1, t2]
  by_cases y2 : y = 2
  · simp [tsw, bd, pu, gI, y2, t3]
  by_cases y3 : y = 3
  · simp [tsw, bd, pu, gI, y3, e3]
  by_cases y4 : y = 4
  · simp [tsw, bd, pu, y4, e4]
  by_cases y5 : y = 5
  · simp [tsw, bd, pu, y5, e5]
  by_cases y6 : y = 6
  · simp [tsw, bd, pu, y6, e6]
  by_cases y7 : y = 7
  · simp [tsw, bd, pu, y7, e7]
  by_cases y8 : y = 8
  · simp [tsw, bd, pu, gI, y8, e8]
  by_cases y9 : y = 9
  · simp [tsw, bd, pu, gI, y9, e9]
  by_cases y10 : y = 10
  · simp [tsw, bd, pu, gI, y10, p1]
  by_cases y11 : y = 11
  · simp [tsw, bd, pu, gI, y11, e11]
  simp [tsw, pu, y0, y1, y2, y3, y4, y5, y6, y7, y8, y9, y10, y11]
theorem m_count {A : AB} {σ : MM} (hV : VA A) (hA : MA A σ) (y : Int32) : wp (FX12_count 249 y) σ (fun r υ => r = coR A y ∧ MA A υ ∧ ofM σ υ) := by
  unfold FX12_count
  refine mq_s hV hA (fun σ hA => ?_)
  unfold coR
  rw [r249_10, r249_20, r249_23]
  obtain ⟨h1, h2, h3, h4, h5, h6, h7⟩ := hA
  obtain ⟨t1, t2, t3, -⟩ := h1.1
  obtain ⟨-, p1, -⟩ := h3
  have e4 : FX12_hanging 249 (0 : Int32) σ = some (hgS A.1 A.2.1.1, σ) := ms_hanging hV.1 h1 okB0 h2.1 hV.2.1.1
  have e5 := ms_wetNow hV.1 h1 h2.1
  have e6 := ms_freeNow h1 h2.1
  have e7 := ms_wanted h1 h2.2.1
  have g0 : aI 255 80 (0 : Int32) σ = some (nI (A.1.1 0), σ) := (ev_aI (k := 0) (by decide) (by decide)).trans (by rw [t1])
  have g1 : aI 255 80 (1 : Int32) σ = some (nI (A.1.1 1), σ) := (ev_aI (k := 1) (by decide) (by decide)).trans (by rw [t2])
  have g2 : aI 255 80 (2 : Int32) σ = some (nI (A.1.1 2), σ) := (ev_aI (k := 2) (by decide) (by decide)).trans (by rw [t3])
  have g3 : aI 265 966 (0 : Int32) σ = some (A.2.1.1 3 0, σ) := (ev_aI (k := 0) (by decide) (by decide)).trans (by rw [h2.1.1])
  have g8 : aI 262 330 (0 : Int32) σ = some (nI A.2.2.2.1.1, σ) := (ev_aI (k := 0) (by decide) (by decide)).trans (by rw [h4.1])
  have k9 : σ.1 265 23 = nI A.2.1.2.2.1 := h2.2.2.1
  have g9 : aI 265 966 (23 : Int32) σ = some (nI A.2.1.2.2.1, σ) := (ev_aI (k := 23) (by decide) (by decide)).trans (by rw [k9])
  have e11 := h6.1
  by_cases y0 : y = 0
  · simp [tsw, bd, pu, y0, g0]
  by_cases y1 : y = 1
  · simp [tsw, bd, pu, y1, g1]
  by_cases y2 : y = 2
  · simp [tsw, bd, pu, y2, g2]
  by_cases y3 : y = 3
  · simp [tsw, bd, pu, y3, g3]
  by_cases y4 : y = 4
  · simp [tsw, bd, pu, y4, e4]
  by_cases y5 : y = 5
  · simp [tsw, bd, pu, y5, e5]
  by_cases y6 : y = 6
  · simp [tsw, bd, pu, y6, e6]
  by_cases y7 : y = 7
  · simp [tsw, bd, pu, y7, e7]
  by_cases y8 : y = 8
  · simp [tsw, bd, pu, y8, g8]
  by_cases y9 : y = 9
  · simp [tsw, bd, pu, y9, g9]
  by_cases y10 : y = 10
  · simp [tsw, bd, pu, gI, y10, p1]
  by_cases y11 : y = 11
  · simp [tsw, bd, pu, gI, y11, e11]
  simp [tsw, pu, y0, y1, y2, y3, y4, y5, y6, y7, y8, y9, y10, y11]
theorem ok_32 {σ : MM} (h : Inv σ) (q : Nat → Int32) : okC (fun chk => TL_32 chk q) σ := by
  obtain ⟨A, hV, hC, hM⟩ := h
  exact okC_of (eq := fun x y => x = y) rfl hV hV hM (cq_s hC (c_count hV hC (q 1))) (fun τ hM => m_count hV hM (q 1))
/-! storm -/
def bsF (f : Nat → Int32) (m0 : Int32) : Nat → Int32 × Int32
  | 0 => (-1, m0)
  | k + 1 => if f k ≤ (bsF f m0 k).2 then bsF f m0 k else (nI k, f k)
theorem bs_c {f : Nat → Int32} {m0 : Int32} {k : Nat} : (if f k ≤ (bsF f m0 k).2 then ((bsF f m0 k).1, (bsF f m0 k).2) else (nI k, f k)) = bsF f m0 (k + 1) := by
  show _ = (if f k ≤ (bsF f m0 k).2 then bsF f m0 k else (nI k, f k))
  by_cases q : f k ≤ (bsF f m0 k).2 <;> simp [q]
theorem bs_1 {f : Nat → Int32} {m0 : Int32} {k : Nat} : (bsF f m0 (k + 1)).1 = (if f k ≤ (bsF f m0 k).2 then (bsF f m0 k).1 else nI k) := by
  show (if f k ≤ (bsF f m0 k).2 then bsF f m0 k else (nI k, f k)).1 = _
  by_cases q : f k ≤ (bsF f m0 k).2 <;> simp [q]
theorem bs_2 {f : Nat → Int32} {m0 : Int32} {k : Nat} : (bsF f m0 (k + 1)).2 = (if f k ≤ (bsF f m0 k).2 then (bsF f m0 k).2 else f k) := by
  show (if f k ≤ (bsF f m0 k).2 then bsF f m0 k else (nI k, f k)).2 = _
  by_cases q : f k ≤ (bsF f m0 k).2 <;> simp [q]
theorem c_storm {A : AB} {σ : MM} (hV : VA A) (hA : CA A σ) : FX11_storm 0 σ = some ((bsF (wdS A.1 A.2.1.1) (-1) (A.1.1 1)).1, σ) := by
  have v4 := hV.1.1.2.1
  have h2 := hA.1.1.2.1
  unfold FX11_storm
  rw [r0_1, r0_5]
  refine (bd_it (fun k => ((bsF (wdS A.1 A.2.1.1) (-1) k).1, (bsF (wdS A.1 A.2.1.1) (-1) k).2, nI k)) (A.1.1 1) rfl ?_ ?_ (by omega)).trans rfl
  · intro k hk
    have e1 := ks_wind hA.1 o38 hA.2.1.1 hk
    by_cases q : wdS A.1 A.2.1.1 k ≤ (bsF (wdS A.1 A.2.1.1) (-1) k).2 <;> simp [bd, gI, h2, nle_n hk (by omega), e1, q, bs_1, bs_2, lt, pu, nI_1]
  · refine (ev_bd (show gI 3 10 σ = some (nI (A.1.1 1), σ) by unfold gI; rw [h2])).trans ?_
    rw [if_pos (le_nn (by omega))]
    rfl
theorem m_storm {A : AB} {σ : MM} (hV : VA A) (hA : MA A σ) : wp (FX12_storm 249) σ (fun r υ => r = (bsF (wdS A.1 A.2.1.1) (-1) (A.1.1 1)).1 ∧ MA A υ ∧ ofM σ υ) := by
  have v4 := hV.1.1.2.1
  unfold FX12_storm
  refine mq_s hV hA (fun σ hA => ?_)
  have hc := ms_places hA.1
  refine (bd_it (fun k => ((bsF (wdS A.1 A.2.1.1) (-1) k).1, (bsF (wdS A.1 A.2.1.1) (-1) k).2, nI k)) (A.1.1 1) rfl ?_ ?_ (by omega)).trans rfl
  · intro k hk
    have e1 := ms_wind hV.1 hA.1 hA.2.1.1 hV.2.1.1 hk
    by_cases q : wdS A.1 A.2.1.1 k ≤ (bsF (wdS A.1 A.2.1.1) (-1) k).2 <;> simp [bd, hc, nle_n hk (by omega), e1, q, bs_1, bs_2, lt, pu, nI_1]
  · refine (ev_bd hc).trans ?_
    rw [if_pos (le_nn (by omega))]
    rfl
theorem ok_27 {σ : MM} (h : Inv σ) (q : Nat → Int32) : okC (fun chk => TL_27 chk q) σ := by
  obtain ⟨A, hV, hC, hM⟩ := h
  exact okC_of (eq := fun x y => x = y) rfl hV hV hM (cq_s hC (c_storm hV hC)) (fun τ hM => m_storm hV hM)
/-! same: pairs, one by one -/
def inF (p : Nat → Nat → Bool) (a : Nat) (c : Int32) : Nat → Int32
  | 0 => c
  | m + 1 => if p a (a + 1 + m) = true then inF p a c m + 1 else inF p a c m
def ouF (p : Nat → Nat → Bool) (n : Nat) : Nat → Int32
  | 0 => 0
  | a + 1 => inF p a (ouF p n a) (n - (a + 1))
def smR (A : AB) : Int32 := ouF (fun a b => decide (weS A.1 A.2.1.1 a = weS A.1 A.2.1.1 b)) (A.1.1 1) (A.1.1 1)
theorem c_same {A : AB} {σ : MM} (hV : VA A) (hA : CA A σ) : wp (FX11_same 0) σ (fun r τ => r = smR A ∧ eqr (fun b _ => b = 42) σ τ) := by
  have v4 := hV.1.1.2.1
  unfold FX11_same smR
  rw [r0_1, r0_5]
  generalize hp : (fun a b => decide (weS A.1 A.2.1.1 a = weS A.1 A.2.1.1 b)) = p
  have hp2 : ∀ a b, p a b = decide (weS A.1 A.2.1.1 a = weS A.1 A.2.1.1 b) := fun a b => by rw [← hp]
  refine ws_it (fun k s τ => s = (ouF p (A.1.1 1) k, nI k) ∧ eqr (fun b _ => b = 42) σ τ) (A.1.1 1) (by omega) ⟨rfl, eqr_rf⟩ ?_
  rintro a s τ ha ⟨rfl, hq⟩
  have hT : CTn A.1 τ := CTn_r hq (fun b j _ _ => by omega) hA.1
  refine ws_gv hT.1.2.1 ?_
  by_cases han : a < A.1.1 1
  · rw [if_neg (nle_n han (by omega)), lt_eq]
    refine ws_it (fun m s υ => s = (inF p a (ouF p (A.1.1 1) a) m, nI (a + 1 + m)) ∧ eqr (fun b _ => b = 42) σ υ) (A.1.1 1 - (a + 1)) (by omega) ⟨by rw [nI_1]; rfl, hq⟩ ?_
    rintro m s υ hm ⟨rfl, hq⟩
    have hT : CTn A.1 υ := CTn_r hq (fun b j _ _ => by omega) hA.1
    have hS : CSk A.1 38 A.2.1.1 υ := CSk_r hq (fun j => by omega) (by omega) hA.2.1.1
    refine ws_gv hT.1.2.1 ?_
    by_cases hmn : m < A.1.1 1 - (a + 1)
    · rw [if_neg (nle_n (by omega) (by omega))]
      obtain ⟨τ1, e1, q1, -⟩ := ks_weather hV.1 hT o38 hS han 0
      have hq1 := eqr_tr hq q1
      have hT1 : CTn A.1 τ1 := CTn_r hq1 (fun b j _ _ => by omega) hA.1
      have hS1 : CSk A.1 38 A.2.1.1 τ1 := CSk_r hq1 (fun j => by omega) (by omega) hA.2.1.1
      obtain ⟨τ2, e2, q2, -⟩ := ks_weather hV.1 hT1 o38 hS1 (show a + 1 + m < A.1.1 1 by omega) 0
      have hq2 := eqr_tr hq1 q2
      refine wp_eq e1 (wp_eq e2 ?_)
      have hx : inF p a (ouF p (A.1.1 1) a) (m + 1) = if weS A.1 A.2.1.1 a = weS A.1 A.2.1.1 (a + 1 + m) then inF p a (ouF p (A.1.1 1) a) m + 1 else inF p a (ouF p (A.1.1 1) a) m := by
        show (if p a (a + 1 + m) = true then _ else _) = _
        rw [hp2]
        by_cases z : weS A.1 A.2.1.1 a = weS A.1 A.2.1.1 (a + 1 + m) <;> simp [z]
      by_cases z : weS A.1 A.2.1.1 a = weS A.1 A.2.1.1 (a + 1 + m)
      · rw [if_pos z] at hx
        rw [if_pos (show (wxS A.1 A.2.1.1 a 0).1 = (wxS A.1 A.2.1.1 (a + 1 + m) 0).1 from z)]
        refine wp_eq (show (lt _ _ : PP Int32) τ2 = some (inF p a (ouF p (A.1.1 1) a) m + 1, τ2) from rfl) ?_
        rw [lt_eq]
        exact wp_pu (Or.inl ⟨_, rfl, hmn, by rw [hx, nI_1]; rfl, hq2⟩)
      · rw [if_neg z] at hx
        rw [if_neg (show ¬ (wxS A.1 A.2.1.1 a 0).1 = (wxS A.1 A.2.1.1 (a + 1 + m) 0).1 from z)]
        refine wp_eq (show (pu _ : PP Int32) τ2 = some (inF p a (ouF p (A.1.1 1) a) m, τ2) from rfl) ?_
        rw [lt_eq]
        exact wp_pu (Or.inl ⟨_, rfl, hmn, by rw [hx, nI_1]; rfl, hq2⟩)
    · have : m = A.1.1 1 - (a + 1) := by omega
      subst this
      rw [if_pos (nI_le (by omega) (by omega))]
      refine wp_pu (Or.inr ⟨_, rfl, ?_⟩)
      rw [lt_eq]
      exact wp_pu (Or.inl ⟨_, rfl, han, by rw [nI_1]; rfl, hq⟩)
  · have : a = A.1.1 1 := by omega
    subst this
    rw [if_pos (le_nn (by omega))]
    exact wp_pu (Or.inr ⟨_, rfl, wp_pu ⟨rfl, hq⟩⟩)
theorem m_same {A : AB} {σ : MM} (hV : VA A) (hA : MA A σ) : wp (FX12_same 249) σ (fun r υ => r = smR A ∧ MA A υ ∧ ofM σ υ) := by
  have v4 := hV.1.1.2.1
  unfold FX12_same
  refine mq_s hV hA (fun σ hA => ?_)
  unfold smR
  generalize hp : (fun a b => decide (weS A.1 A.2.1.1 a = weS A.1 A.2.1.1 b)) = p
  have hp2 : ∀ a b, p a b = decide (weS A.1 A.2.1.1 a = weS A.1 A.2.1.1 b) := fun a b => by rw [← hp]
  have hc := ms_places hA.1
  have we : ∀ k, k < A.1.1 1 → FX12_weatherOf 249 (0 : Int32) (nI k) σ = some (weS A.1 A.2.1.1 k, σ) := fun k hk => ms_weather hV.1 hA.1 okB0 hA.2.1.1 hV.2.1.1 hk
  refine (bd_it (fun k => (ouF p (A.1.1 1) k, nI k)) (A.1.1 1) rfl ?_ ?_ (by omega)).trans rfl
  · intro a ha
    refine (ev_bd hc).trans ?_
    rw [if_neg (nle_n ha (by omega)), lt_eq]
    refine (bd_it (r := inF p a (ouF p (A.1.1 1) a) (A.1.1 1 - (a + 1))) (fun m => (inF p a (ouF p (A.1.1 1) a) m, nI (a + 1 + m))) (A.1.1 1 - (a + 1)) (by rw [nI_1]; rfl) ?_ ?_ (by omega)).trans ?_
    · intro m hm
      have e1 := we a ha
      have e2 := we (a + 1 + m) (by omega)
      refine (ev_bd hc).trans ?_
      rw [if_neg (nle_n (by omega) (by omega))]
      refine (ev_bd e1).trans ((ev_bd e2).trans ?_)
      have hx : inF p a (ouF p (A.1.1 1) a) (m + 1) = if weS A.1 A.2.1.1 a = weS A.1 A.2.1.1 (a + 1 + m) then inF p a (ouF p (A.1.1 1) a) m + 1 else inF p a (ouF p (A.1.1 1) a) m := by
        show (if p a (a + 1 + m) = true then _ else _) = _
        rw [hp2]
        by_cases z : weS A.1 A.2.1.1 a = weS A.1 A.2.1.1 (a + 1 + m) <;> simp [z]
      rw [hx]
      by_cases z : weS A.1 A.2.1.1 a = weS A.1 A.2.1.1 (a + 1 + m) <;> simp [bd, z, lt, pu, nI_1] <;> rfl
    · refine (ev_bd hc).trans ?_
      rw [if_pos (nI_le (by omega) (by omega))]
      rfl
    · show some _ = some _
      rw [nI_1]
      rfl
  · refine (ev_bd hc).trans ?_
    rw [if_pos (le_nn (by omega))]
    rfl
theorem ok_26 {σ : MM} (h : Inv σ) (q : Nat → Int32) : okC (fun chk => TL_26 chk q) σ := by
  obtain ⟨A, hV, hC, hM⟩ := h
  exact okC_of (eq := fun x y => x = y) rfl hV hV hM (cq_w hC (c_same hV hC) (fun b j z => by unfold scC; omega)) (fun τ hM => m_same hV hM)
