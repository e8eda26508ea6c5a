/-! ===== may it hang; the model's beginning; what was ===== -/
def liS (T : TW) (S : SK) (x : Int32) : Bool := inN x (T.1 2) && decide (S 1 x.toNatClampNeg = -1)
def haS (T : TW) (S : SK) (x : Int32) : Bool := inN x (T.1 2) && decide (¬ S 1 x.toNatClampNeg = -1)
def chS (T : TW) (S : SK) (x y z : Int32) : Bool := liS T S x && (inN y (T.1 0) && (decide (¬ z < 1) && (decide (¬ 3 < z) && decide (¬ frS T S y.toNatClampNeg < z))))
theorem inN_c {x : Int32} {n : Nat} (hn : n < 2 ^ 31) (h : inN x n = true) : x.toNatClampNeg < n ∧ x = nI x.toNatClampNeg := by
  obtain ⟨k, hk, rfl⟩ := inN_ex hn h
  rw [cl_n (by omega)]
  exact ⟨hk, rfl⟩
theorem ks_lies {T : TW} {S : SK} {σ : MM} {a : Nat} (hT : CTn T σ) (h : ob a 4) (hS : CSk T a S σ) (x : Int32) : FX4_lies a x σ = some (liS T S x, σ) := by
  have h6 := hT.1.2.2.2.2.2
  rw [c_lies hT.1 h]
  unfold liS
  by_cases q : inN x (T.1 2) = true
  · rw [(hS.2 _ (inN_c (by omega) q).1).2.1]
  · simp [q]
theorem ks_hangs {T : TW} {S : SK} {σ : MM} {a : Nat} (hT : CTn T σ) (h : ob a 4) (hS : CSk T a S σ) (x : Int32) : FX4_hangs a x σ = some (haS T S x, σ) := by
  have h6 := hT.1.2.2.2.2.2
  rw [c_hangs hT.1 h]
  unfold haS
  by_cases q : inN x (T.1 2) = true
  · rw [(hS.2 _ (inN_c (by omega) q).1).2.1]
  · simp [q]
theorem ks_canHang {T : TW} {S : SK} {σ : MM} {a : Nat} (hT : CTn T σ) (h : ob a 4) (hS : CSk T a S σ) (x y z : Int32) : FX4_canHang a x y z σ = some (chS T S x y z, σ) := by
  have h5 := hT.1.2.2.2.1
  unfold FX4_canHang chS
  rw [sk0 h, ev_bd (ks_lies hT h hS x)]
  by_cases q1 : liS T S x = true
  · have e2 := c_hasLine hT.1 y
    by_cases q2 : inN y (T.1 0) = true
    · obtain ⟨q3, q4⟩ := inN_c (by omega) q2
      have e3 : FX4_freeOn a y σ = some (frS T S y.toNatClampNeg, σ) := by
        have := ks_freeOn hT h hS q3
        rw [← q4] at this
        exact this
      by_cases q5 : z < 1
      · simp [bd, q1, q2, q5, e2, b2i, pu, zb]
      · by_cases q6 : 3 < z
        · simp [bd, q1, q2, q5, q6, e2, b2i, pu, zb]
        · by_cases q7 : frS T S y.toNatClampNeg < z <;> simp [bd, q1, q2, q5, q6, q7, e2, e3, b2i, pu, zb]
    · simp [bd, q1, q2, e2, b2i, pu, zb]
  · simp [bd, q1, b2i, pu, zb]
theorem ms_mayHang {T : TW} {S : SK} {σ : MM} {b c l : Nat} (hV : VTn T) (hT : MTn T σ) (hb : okB b) (hS : MSk T b S σ) (hv : VSk T S) (hc : c < T.1 2) (hl : l < T.1 0) (z : Int32) : FX12_mayHang 249 (nI b) (nI c) (nI l) z σ = some (decide (S 1 c = -1) && decide (¬ frS T S l < z), σ) := by
  unfold FX12_mayHang
  rw [ev_bd (ms_doesHang hV hb hS hv hc)]
  have e3 := ms_freeOf hT hb hS hl
  by_cases q1 : S 1 c = -1
  · by_cases q7 : frS T S l < z <;> simp [bd, q1, q7, e3, b2i, pu, zb]
  · simp [bd, q1, b2i, pu, zb]
theorem ms_within (x y z : Int32) (σ : MM) : FX12_within x y z σ = some (decide (¬ x < y) && decide (¬ z < x), σ) := by
  unfold FX12_within
  by_cases q1 : x < y <;> by_cases q2 : z < x <;> simp [bd, q1, q2, pu, zb]
theorem ms_starts {T : TW} {σ : MM} {b : Nat} (hV : VTn T) (hT : MTn T σ) (hb : okB b) : wp (FX12_starts 249 (nI b)) σ (fun _ τ => MSk T b (beS T) τ ∧ eqr (fun r j => r = 265 ∧ b ≤ j ∧ j < b + 19) σ τ) := by
  have h6 := hV.1.2.2.1
  have hb' : b + 42 ≤ 966 := hb
  unfold FX12_starts
  rw [r249_23]
  refine ws_it (fun k s τ => s = nI k ∧ eqr (fun r j => r = 265 ∧ b ≤ j ∧ j < b + 19) σ τ ∧ ∀ c, c < k → τ.1 265 (b + c) = 0) 19 (by decide) ⟨rfl, eqr_rf, fun c hc => by omega⟩ ?_
  rintro k s τ hk ⟨rfl, hq, hw⟩
  by_cases hkn : k < 19
  · rw [if_neg (show ¬ (19 : Int32) ≤ nI k from nle_n hkn (by decide)), nI_add]
    refine ws_u (by omega) (by decide) ?_
    rw [lt_eq]
    refine wp_pu (Or.inl ⟨_, rfl, hkn, by rw [nI_1], eqr_tr hq (eqr_up (by omega)), fun c hc => ?_⟩)
    show up2 τ.1 265 (b + k) _ 265 (b + c) = _
    by_cases q : c = k
    · subst q
      rw [up2_at]
    · rw [up2_ne (by omega)]
      exact hw c (by omega)
  · have : k = 19 := by omega
    subst this
    rw [if_pos (show (19 : Int32) ≤ nI 19 by decide)]
    refine wp_pu (Or.inr ⟨_, rfl, ?_⟩)
    refine ws_it (fun k s υ => s = nI k ∧ eqr (fun r j => r = 265 ∧ b ≤ j ∧ j < b + 19) σ υ ∧ υ.1 265 b = 0 ∧ (∀ c, c < 6 → υ.1 265 (b + 13 + c) = 0) ∧ ∀ c, c < k → c < T.1 2 → υ.1 265 (b + 1 + c) = T.2 4 c ∧ υ.1 265 (b + 7 + c) = -1) 6 (by decide) ⟨rfl, hq, hw 0 (by decide), fun c hc => by have := hw (13 + c) (by omega); rw [← Nat.add_assoc] at this; exact this, fun c hc => by omega⟩ ?_
    rintro k s υ hk' ⟨rfl, hq, h0, h13, hw⟩
    by_cases hkn : k < 6
    · have hT' : MTn T υ := MTn_r hq (fun b j h1 h2 => by omega) hT
      rw [if_neg (show ¬ (6 : Int32) ≤ nI k from nle_n hkn (by decide))]
      have i1 : nI b + (1 : Int32) + nI k = nI (b + 1 + k) := ixS b 1 k
      have i2 : nI b + (7 : Int32) + nI k = nI (b + 7 + k) := ixS b 7 k
      rw [i1, i2]
      refine wp_eq (ms_cloths hT') ?_
      have fin : ∀ v : Int32, (k < T.1 2 → v = T.2 4 k) → wp (bd (uI 265 966 (nI (b + 1 + k)) v) (fun (_ : Unit) => bd (uI 265 966 (nI (b + 7 + k)) (-1 : Int32)) (fun (_ : Unit) => lt (nI k + (1 : Int32)) (fun y8 => pu (Sum.inl y8)))) : PP (Int32 ⊕ Unit)) υ (fun r υ => (∃ a', r = .inl a' ∧ k < 6 ∧ (a' = nI (k + 1) ∧ eqr (fun r j => r = 265 ∧ b ≤ j ∧ j < b + 19) σ υ ∧ υ.1 265 b = 0 ∧ (∀ c, c < 6 → υ.1 265 (b + 13 + c) = 0) ∧ ∀ c, c < k + 1 → c < T.1 2 → υ.1 265 (b + 1 + c) = T.2 4 c ∧ υ.1 265 (b + 7 + c) = -1)) ∨ (∃ z, r = .inr z ∧ wp (pu ()) υ (fun _ τ => MSk T b (beS T) τ ∧ eqr (fun r j => r = 265 ∧ b ≤ j ∧ j < b + 19) σ τ))) := by
        intro v hvk
        refine ws_u (by omega) (by decide) (ws_u (by omega) (by decide) ?_)
        rw [lt_eq]
        refine wp_pu (Or.inl ⟨_, rfl, hkn, by rw [nI_1], ?_, ?_, fun c hc => ?_, fun c hc hcn => ?_⟩)
        · exact eqr_tr hq (eqr_tr (eqr_up (by omega)) (eqr_up (σ := (up2 υ.1 265 (b + 1 + k) v, υ.2)) (by omega)))
        · show up2 (up2 υ.1 265 _ _) 265 _ _ 265 b = 0
          rw [up2_ne (by omega), up2_ne (by omega)]; exact h0
        · show up2 (up2 υ.1 265 _ _) 265 _ _ 265 (b + 13 + c) = 0
          rw [up2_ne (by omega), up2_ne (by omega)]; exact h13 c hc
        · show up2 (up2 υ.1 265 _ _) 265 _ _ 265 (b + 1 + c) = _ ∧ up2 (up2 υ.1 265 _ _) 265 _ _ 265 (b + 7 + c) = _
          rw [up2_ne (i := b + 1 + c) (by omega)]
          by_cases q : c = k
          · subst q
            rw [up2_at, up2_at]
            exact ⟨hvk hcn, rfl⟩
          · rw [up2_ne (by omega), up2_ne (by omega), up2_ne (by omega)]
            exact hw c (by omega) hcn
      by_cases q : k < T.1 2
      · rw [if_neg (nle_n q (by omega))]
        exact wp_eq (show bd (FX12_clothOf 249 (nI k) (1 : Int32)) (fun x6 => pu x6) υ = some (T.2 4 k, υ) by rw [ev_bd (ms_soaked hV hT' q)]; rfl) (fin _ (fun _ => rfl))
      · rw [if_pos (nI_le (by omega) (by omega))]
        exact wp_eq (show pu (0 : Int32) υ = some (_, υ) from rfl) (fin _ (fun z => absurd z q))
    · have : k = 6 := by omega
      subst this
      rw [if_pos (show (6 : Int32) ≤ nI 6 by decide)]
      refine wp_pu (Or.inr ⟨_, rfl, wp_pu ⟨⟨h0, fun c hc => ?_⟩, hq⟩⟩)
      obtain ⟨k1, k2⟩ := hw c (by omega) hc
      exact ⟨k1, k2, h13 c (by omega)⟩
