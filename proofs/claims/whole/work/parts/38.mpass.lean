/-! ===== the model's hour ===== -/
theorem clp_ex (v : Int32) : ∃ d, d ≤ 9 ∧ clp v = nI d := by
  unfold clp
  by_cases q1 : v < 9
  · rw [if_pos q1]
    by_cases q2 : 0 < v
    · rw [if_pos q2]
      rcases pk_ix v (show 10 < 2 ^ 31 by decide) with q | q | ⟨k, hk, q⟩
      · exfalso
        have h1 := Int32.lt_iff_toInt_lt.mp q
        have h2 := Int32.lt_iff_toInt_lt.mp q2
        omega
      · exfalso
        have h1 := Int32.lt_iff_toInt_lt.mp q1
        have h2 := Int32.le_iff_toInt_le.mp q
        have e1 : (9 : Int32).toInt = 9 := rfl
        have e2 : (nI 10).toInt = 10 := rfl
        omega
      · exact ⟨k, by omega, q⟩
    · exact ⟨0, by decide, by rw [if_neg q2]; rfl⟩
  · rw [if_neg q1]
    exact ⟨9, by decide, rfl⟩
theorem clp_m (v : Int32) : (if (0 : Int32) ≤ v then if v ≤ 9 then v else 9 else 0) = clp v := by
  unfold clp
  have t0 : (0 : Int32).toInt = 0 := rfl
  have t9 : (9 : Int32).toInt = 9 := rfl
  by_cases q1 : (0 : Int32) ≤ v
  · by_cases q2 : v ≤ 9
    · rw [if_pos q1, if_pos q2]
      by_cases q3 : v < 9
      · rw [if_pos q3]
        by_cases q4 : 0 < v
        · rw [if_pos q4]
        · rw [if_neg q4]
          apply Int32.toInt_inj.mp
          have h1 := Int32.le_iff_toInt_le.mp q1
          have h2 : ¬ (0 : Int32).toInt < v.toInt := fun n => q4 (Int32.lt_iff_toInt_lt.mpr n)
          omega
      · rw [if_neg q3]
        have : v = 9 := by
          apply Int32.toInt_inj.mp
          have h1 := Int32.le_iff_toInt_le.mp q2
          have h2 : ¬ v.toInt < (9 : Int32).toInt := fun n => q3 (Int32.lt_iff_toInt_lt.mpr n)
          omega
        rw [this]
        rfl
    · rw [if_pos q1, if_neg q2]
      have q3 : ¬ v < 9 := fun q => q2 (Int32.le_iff_toInt_le.mpr (by have := Int32.lt_iff_toInt_lt.mp q; omega))
      rw [if_neg q3]
      rfl
  · rw [if_neg q1]
    have q2 : v < 0 := Int32.lt_iff_toInt_lt.mpr (by have : ¬ (0 : Int32).toInt ≤ v.toInt := fun n => q1 (Int32.le_iff_toInt_le.mpr n); omega)
    have q3 : v < 9 := Int32.lt_iff_toInt_lt.mpr (by have := Int32.lt_iff_toInt_lt.mp q2; omega)
    have q4 : ¬ 0 < v := fun q => by have h1 := Int32.lt_iff_toInt_lt.mp q; have h2 := Int32.lt_iff_toInt_lt.mp q2; omega
    rw [if_pos q3, if_neg q4]
theorem sub_mx0 : ∀ w, w < 21 → ∀ d, d < 10 → (nI w - (if nI w ≤ nI d then nI w else nI d)) = mx0 (nI w - nI d) ∧ (mx0 (nI w - nI d) ≤ 0 ↔ mx0 (nI w - nI d) = 0) ∧ ∃ v, v < 21 ∧ mx0 (nI w - nI d) = nI v := by decide +kernel
theorem nle0 : ∀ w, w < 21 → (nI w ≤ 0 ↔ w = 0) := by decide +kernel
theorem nw_ok {T : TW} {S : SK} (hv : VSk T S) {c : Nat} (hc : c < T.1 2) : ∃ w, w ≤ 20 ∧ nwS T S c = nI w := by
  obtain ⟨w, hw, e⟩ := (hv c hc).1
  unfold nwS
  by_cases q1 : S 1 c = -1
  · rw [if_pos q1]; exact ⟨w, hw, e⟩
  · by_cases q2 : S 0 c ≤ 0
    · rw [if_neg q1, if_pos q2]; exact ⟨w, hw, e⟩
    · rw [if_neg q1, if_neg q2]
      obtain ⟨d, hd, ed⟩ := clp_ex (sv (fun s => opnd s (S 0 c) (3 - S 2 c) (suS T S) (S 3 0)) (T.2 5) (fun _ => 0) (T.1 3) 0)
      have : drS T (S 0 c) (3 - S 2 c) (suS T S) (S 3 0) = nI d := ed
      rw [this, e]
      obtain ⟨v, h1, h2⟩ := (sub_mx0 w (by omega) d (by omega)).2.2
      exact ⟨v, by omega, h2⟩
theorem VSk_pa {T : TW} {S : SK} {dr : Bool} (hv : VSk T S) : VSk T (paS T S dr) := by
  intro c hc
  refine ⟨?_, (hv c hc).2.1, (hv c hc).2.2⟩
  show ∃ w, w ≤ 20 ∧ (if dr = true then nwS T S c else S 0 c) = nI w
  cases dr
  · exact (hv c hc).1
  · exact nw_ok hv hc
/-- what the model makes of a cloth's wetness -/
theorem nw_m {T : TW} {S : SK} (hv : VSk T S) {c : Nat} (hc : c < T.1 2) (q1 : ¬ S 1 c = -1) : S 0 c - (if S 0 c ≤ drS T (S 0 c) (3 - S 2 c) (suS T S) (S 3 0) then S 0 c else drS T (S 0 c) (3 - S 2 c) (suS T S) (S 3 0)) = nwS T S c ∧ (¬ S 0 c ≤ 0 → (nwS T S c ≤ 0 ↔ nwS T S c = 0)) := by
  obtain ⟨w, hw, e⟩ := (hv c hc).1
  obtain ⟨d, hd, ed⟩ := clp_ex (sv (fun s => opnd s (S 0 c) (3 - S 2 c) (suS T S) (S 3 0)) (T.2 5) (fun _ => 0) (T.1 3) 0)
  have hD : drS T (S 0 c) (3 - S 2 c) (suS T S) (S 3 0) = nI d := ed
  obtain ⟨m1, m2, -⟩ := sub_mx0 w (by omega) d (by omega)
  unfold nwS
  rw [if_neg q1, hD]
  by_cases q2 : S 0 c ≤ 0
  · rw [if_pos q2]
    refine ⟨?_, fun n => absurd q2 n⟩
    have : w = 0 := (nle0 w (by omega)).mp (by rw [← e]; exact q2)
    rw [e, m1, this]
    have h0 : ∀ d, d < 10 → mx0 (nI 0 - nI d) = nI 0 := by decide +kernel
    exact h0 d (by omega)
  · rw [if_neg q2, e]
    exact ⟨m1, fun _ => m2⟩
theorem sv_plain {opn : Int32 → Int32} {st r0 : Nat → Int32} (h0 : st 0 = 1) (h1 : st 1 = -2) (h2 : st 2 = -10) : sv opn st r0 3 0 = opn 1 + opn (-2) := by
  have g1 : hg st 1 = 1 := by simp only [hg, h0]; decide
  have g2 : hg st 2 = 2 := by
    show (if st 1 < -4 then (if st 1 = -5 then hg st 1 else hg st 1 - 1) else hg st 1 + 1) = 2
    rw [g1, h1]; decide
  have s1 : sv opn st r0 1 = fun i => if i = 0 then opn 1 else r0 i := by
    show (if st 0 < -4 then _ else _) = _
    rw [h0, if_neg (by decide)]
    rfl
  have s2 : sv opn st r0 2 = fun i => if i = 1 then opn (-2) else if i = 0 then opn 1 else r0 i := by
    show (if st 1 < -4 then _ else (fun i => if i = hg st 1 then opn (st 1) else sv opn st r0 1 i)) = _
    rw [h1, if_neg (by decide), g1, s1]
  show (if st 2 < -4 then (if st 2 = -5 then _ else (fun i => if i = hg st 2 - 2 then jn2 (st 2) (sv opn st r0 2 (hg st 2 - 2)) (sv opn st r0 2 (hg st 2 - 1)) else sv opn st r0 2 i)) else _) 0 = _
  rw [h2, if_pos (by decide), if_neg (by decide), g2, s2]
  rfl
/-- the law's worth in the model, out of its facts -/
theorem ms_law {T : TW} {σ : MM} (hV : VTn T) (hT : MTn T σ) {d l u c : Int32} (f0 : σ.1 263 0 = d) (f1 : σ.1 263 1 = l) (f2 : σ.1 263 2 = u) (f3 : σ.1 263 3 = c) : wp (bd (aI 255 80 (3 : Int32)) (fun x16 => bd (if 0 ≤ x16 then bd (aI 255 80 (3 : Int32)) (fun x17 => bd (FX12_worthAt 249 x17) (fun x18 => pu x18)) else bd (aI 263 4 (1 : Int32)) (fun x19 => pu ((1 : Int32) + x19)) : PP (Int32)) (fun (v20 : Int32) => (if 0 ≤ v20 then if v20 ≤ (9 : Int32) then pu v20 else pu (9 : Int32) else pu (0 : Int32) : PP (Int32))))) σ (fun r τ => r = drS T d l u c ∧ eqr (fun b _ => b = 264) σ τ) := by
  have fin : ∀ (v : Int32) (τ : MM), clp v = drS T d l u c → eqr (fun b _ => b = 264) σ τ → wp (if 0 ≤ v then if v ≤ (9 : Int32) then pu v else pu (9 : Int32) else pu (0 : Int32) : PP (Int32)) τ (fun r τ => r = drS T d l u c ∧ eqr (fun b _ => b = 264) σ τ) := by
    intro v τ hc hq
    have e : (if 0 ≤ v then if v ≤ (9 : Int32) then pu v else pu (9 : Int32) else pu (0 : Int32) : PP (Int32)) = pu (clp v) := by
      rw [← clp_m v]
      by_cases q1 : 0 ≤ v
      · by_cases q2 : v ≤ 9 <;> simp [q1, q2]
      · simp [q1]
    rw [e]
    exact wp_pu ⟨hc, hq⟩
  rcases hT.2.2.2.2 with ⟨e, m3, s0, s1, s2⟩ | ⟨e, hL⟩
  · refine ws_a (i := 3) (by decide) (by decide) e ?_
    rw [if_neg (show ¬ (0 : Int32) ≤ -1 by decide)]
    refine wp_eq (x := (1 : Int32) + l) (τ := σ) ?_ (fin _ σ ?_ eqr_rf)
    · refine (ev_bd (ev_aI (k := 1) (show 1 < 4 by decide) (by decide))).trans ?_
      rw [f1]
      rfl
    · unfold drS
      rw [m3, sv_plain s0 s1 s2]
      rfl
  · refine ws_a (i := 3) (by decide) (by decide) e ?_
    rw [if_pos (show (0 : Int32) ≤ 0 by decide)]
    obtain ⟨τ, e1, e2⟩ := m_worthAt hL hV.1.2.2.2 hV.2.1
    refine wp_eq (x := sv (fct σ) (T.2 5) (σ.1 264) (T.1 3) 0) (τ := τ) ?_ (fin _ τ ?_ (eqr_x e2))
    · refine (ev_bd (ev_aI (k := 3) (show 3 < 80 by decide) (by decide))).trans ?_
      rw [e]
      refine (ev_bd e1).trans rfl
    · unfold drS
      rw [sv_ind (r1 := fun _ => 0) hV.2.1.1 (T.1 3) (Nat.le_refl _) 0 (by rw [hV.2.1.2]; decide)]
      unfold fct
      rw [f0, f1, f2, f3]
theorem bd_asw {α β γ : Type} {c : PP α} {f : α → PP β} {k : β → PP γ} {σ : MM} {P : γ → MM → Prop} (h : wp (bd c (fun x => bd (f x) k)) σ P) : wp (bd (bd c f) k) σ P := by rw [bd_as]; exact h
theorem ms_cloths {T : TW} {σ : MM} (hT : MTn T σ) : FX12_cloths 249 σ = some (nI (T.1 2), σ) := m_cloths hT.1
theorem ms_lines {T : TW} {σ : MM} (hT : MTn T σ) : FX12_lines 249 σ = some (nI (T.1 0), σ) := m_lines hT.1
theorem ms_places {T : TW} {σ : MM} (hT : MTn T σ) : FX12_places 249 σ = some (nI (T.1 1), σ) := m_places hT.1
theorem ms_kind {T : TW} {σ : MM} {c : Nat} (hV : VTn T) (hT : MTn T σ) (hc : c < T.1 2) : FX12_clothOf 249 (nI c) (0 : Int32) σ = some (T.2 3 c, σ) := by
  have h6 := hV.1.2.2.1
  have := m_clothOf (σ := σ) (l := c) (w := 0) (by omega) (by decide)
  rw [show 18 + 2 * c + 0 = 18 + 2 * c by omega, (hT.2.2.2.1 c hc).1] at this
  exact this
theorem ms_soaked {T : TW} {σ : MM} {c : Nat} (hV : VTn T) (hT : MTn T σ) (hc : c < T.1 2) : FX12_clothOf 249 (nI c) (1 : Int32) σ = some (T.2 4 c, σ) := by
  have h6 := hV.1.2.2.1
  have := m_clothOf (σ := σ) (l := c) (w := 1) (by omega) (by decide)
  rw [show 18 + 2 * c + 1 = 19 + 2 * c by omega, (hT.2.2.2.1 c hc).2] at this
  exact this
theorem ms_sun {T : TW} {S : SK} {σ : MM} {b : Nat} (hV : VTn T) (hT : MTn T σ) (hb : okB b) (hS : MSk T b S σ) (hv : VSk T S) {γ : Type} {kk : Int32 → PP γ} : bd (it (fun (s1 : Int32 × Int32) => (bd (FX12_cloths 249) (fun x2 => if x2 ≤ s1.2 then pu (Sum.inr s1.1) else bd (FX12_doesHang 249 (nI b) s1.2) (fun x3 => bd (if ((b2i x3)) = 0 then pu (0 : Int32) else bd (FX12_isWet 249 (nI b) s1.2) (fun x4 => if ((b2i x4)) = 0 then pu (0 : Int32) else bd (FX12_clothOf 249 s1.2 (0 : Int32)) (fun x5 => if x5 = (1 : Int32) then pu (1 : Int32) else pu (0 : Int32))) : PP (Int32)) (fun (v6 : Int32) => lt (s1.1 + v6) (fun y7 => lt (s1.2 + (1 : Int32)) (fun y8 => pu (Sum.inl (y7, y8))))))) : PP ((Int32 × Int32) ⊕ (Int32)))) FU ((0 : Int32), (0 : Int32))) kk σ = kk (suS T S) σ := by
  have h6 := hV.1.2.2.1
  have hc := ms_cloths hT
  refine bd_it (fun k => (hmF (fun c => decide (¬ S 1 c = -1) && (decide (¬ S 0 c ≤ 0) && decide (T.2 3 c = 1))) k, nI k)) (T.1 2) rfl ?_ ?_ (by omega)
  · intro k hk
    have e1 := ms_doesHang hV hb hS hv hk
    have e2 := ms_isWet hV hb hS hk
    have e3 := ms_kind hV hT hk
    by_cases q1 : S 1 k = -1
    · simp [bd, hc, nle_n hk (by omega), e1, q1, hmF, lt, pu, nI_1, b2i]
    · by_cases q2 : S 0 k ≤ 0
      · simp [bd, hc, nle_n hk (by omega), e1, e2, q1, q2, hmF, lt, pu, nI_1, b2i]
      · by_cases q3 : T.2 3 k = 1 <;> simp [bd, hc, nle_n hk (by omega), e1, e2, e3, q1, q2, q3, hmF, lt, pu, nI_1, b2i]
  · refine (ev_bd hc).trans ?_
    rw [if_pos (le_nn (by omega))]
    rfl
