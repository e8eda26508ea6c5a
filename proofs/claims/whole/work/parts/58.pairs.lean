/-! ===== pairs, look: the class ===== -/
def alF (p : Nat → Bool) : Nat → Bool
  | 0 => true
  | k + 1 => alF p k && p k
theorem al_t {p : Nat → Bool} : ∀ {n : Nat}, alF p n = true ↔ ∀ k, k < n → p k = true
  | 0 => ⟨fun _ k hk => by omega, fun _ => rfl⟩
  | n + 1 => by
    show (alF p n && p n) = true ↔ _
    rw [Bool.and_eq_true, al_t (n := n)]
    constructor
    · rintro ⟨h1, h2⟩ k hk
      by_cases q : k = n
      · rw [q]; exact h2
      · exact h1 k (by omega)
    · intro h
      exact ⟨fun k hk => h k (by omega), h n (by omega)⟩
theorem al_f {p : Nat → Bool} {k n : Nat} (hk : k < n) (h : p k = false) : alF p n = false := by
  cases hb : alF p n with
  | false => rfl
  | true => rw [al_t.mp hb k hk] at h; exact absurd h (by decide)
theorem al_m {p : Nat → Bool} {k n : Nat} (hk : k ≤ n) (h : alF p k = false) : alF p n = false := by
  cases hb : alF p n with
  | false => rfl
  | true => rw [al_t.mpr (fun j hj => al_t.mp hb j (by omega))] at h; exact absurd h (by decide)
/-- what is told i is so, from the sky U on -/
def tdP (T : TW) (U : SK) (D : TO) (i : Nat) : Bool := decide (weS T (pnS T U (D.2 1 i).toNatClampNeg) (D.2 0 i).toNatClampNeg = D.2 2 i)
def ptD (T : TW) (U : SK) (D : TO) : Bool := alF (tdP T U D) D.1
def agP (T : TW) (U : SK) (D : TO) (h i : Nat) : Bool := !decide (D.2 1 i = nI h) || tdP T U D i
def RpC (b j : Nat) : Prop := RtC b j ∨ (138 ≤ b ∧ b ≤ 143) ∨ (b = 134 ∧ 4 ≤ j)
theorem RpC_sc (b j : Nat) (h : RpC b j) : b < 249 ∧ scC b j := by unfold RpC RtC at h; unfold scC; omega
theorem RpC_no {b j : Nat} (h : ¬ (b = 14 ∨ (42 ≤ b ∧ b ≤ 47) ∨ (138 ≤ b ∧ b ≤ 143) ∨ (b = 134 ∧ 4 ≤ j))) : ¬ RpC b j := fun q => by unfold RpC RtC at q; omega
theorem pc_T {T : TW} {σ τ : MM} (h : eqr RpC σ τ) (hT : CTn T σ) : CTn T τ := CTn_r h (fun b j _ _ => RpC_no (by omega)) hT
theorem pc_S {T : TW} {S : SK} {σ τ : MM} (h : eqr RpC σ τ) (hS : CSk T 38 S σ) : CSk T 38 S τ := CSk_r h (fun j => ⟨RpC_no (by omega), RpC_no (by omega), RpC_no (by omega)⟩) (RpC_no (by omega)) hS
theorem pc_D {D : TO} {σ τ : MM} (h : eqr RpC σ τ) (hD : CTo 134 D σ) : CTo 134 D τ := CTo_r h ⟨RpC_no (by omega), fun j => ⟨RpC_no (by omega), RpC_no (by omega), RpC_no (by omega)⟩⟩ hD
theorem ks_agrees {T : TW} {U : SK} {D : TO} {σ : MM} {h : Nat} (hV : VTn T) (hT : CTn T σ) (vD : VTo T D) (hD : CTo 134 D σ) (hS : CSk T 43 (pnS T U h) σ) (hh : h < 1000) : wp (FX6_agrees 134 (nI h)) σ (fun r τ => r = alF (agP T U D h) D.1 ∧ eqr (fun b _ => b = 47) σ τ) := by
  have v4 := hV.1.2.1
  unfold FX6_agrees
  rw [r134_0, r134_1, r134_2, r134_7]
  refine ws_it (fun k s τ => s = nI k ∧ eqr (fun b _ => b = 47) σ τ ∧ alF (agP T U D h) k = true) D.1 (by have := vD.1; omega) ⟨rfl, eqr_rf, rfl⟩ ?_
  rintro k s τ hk ⟨rfl, hq, ha⟩
  have vn := vD.1
  refine ws_gv ((hq.1 _ _ (by omega)).trans hD.1) ?_
  by_cases hkn : k < D.1
  · rw [if_neg (nle_n hkn (by omega))]
    obtain ⟨d0, d1, d2⟩ := hD.2 k hkn
    obtain ⟨⟨p, hp, ep⟩, ⟨j, hj, ej⟩, -⟩ := vD.2 k hkn
    have nxt : ∀ υ : MM, eqr (fun b _ => b = 47) σ υ → agP T U D h k = true → wp (lt (nI k + (1 : Int32)) (fun y => pu (Sum.inl y)) : PP (Int32 ⊕ (Unit ⊕ Unit))) υ (fun r υ => (∃ a', r = .inl a' ∧ k < D.1 ∧ (a' = nI (k + 1) ∧ eqr (fun b _ => b = 47) σ υ ∧ alF (agP T U D h) (k + 1) = true)) ∨ (∃ b, r = .inr b ∧ wp ((Sum.elim (fun (v9 : Unit) => zb (1 : Int32)) (fun (v10 : Unit) => zb (0 : Int32))) b) υ (fun r τ => r = alF (agP T U D h) D.1 ∧ eqr (fun b _ => b = 47) σ τ))) := by
      intro υ hυ hp
      rw [lt_eq]
      refine wp_pu (Or.inl ⟨_, rfl, hkn, nI_1 k, hυ, ?_⟩)
      show (alF (agP T U D h) k && agP T U D h k) = true
      rw [ha, hp]; rfl
    refine ws_a (by omega) (by decide) ((hq.1 _ _ (by omega)).trans d1) ?_
    by_cases z : D.2 1 k = nI h
    · rw [if_pos z]
      refine ws_a (by omega) (by decide) ((hq.1 _ _ (by omega)).trans (d0.trans ep)) ?_
      have hjh : j = h := (nI_eq (by omega) (by omega)).mp (ej.symm.trans z)
      subst hjh
      obtain ⟨υ, e, q1, -⟩ := ks_weather hV (CTn_r hq (fun b j _ _ => by omega) hT) o43 (CSk_r hq (fun j => by omega) (by omega) hS) hp 0
      have e' : FX4_weather 43 (nI p) 0 τ = some (weS T (pnS T U j) p, υ) := e
      have hq1 := eqr_tr hq q1
      refine wp_eq e' ?_
      refine ws_a (by omega) (by decide) ((hq1.1 _ _ (by omega)).trans d2) ?_
      have et : tdP T U D k = decide (weS T (pnS T U j) p = D.2 2 k) := by
        unfold tdP
        rw [ej, ep, cl_n (by omega), cl_n (by omega)]
      by_cases z2 : weS T (pnS T U j) p = D.2 2 k
      · rw [if_pos z2]
        exact nxt υ hq1 (by unfold agP; rw [et]; simp [z2])
      · rw [if_neg z2]
        refine wp_pu (Or.inr ⟨_, rfl, ws_z0 ⟨?_, hq1⟩⟩)
        exact (al_f hkn (by unfold agP; rw [et]; simp [z, z2])).symm
    · rw [if_neg z]
      exact nxt τ hq (by unfold agP; simp [z])
  · have : k = D.1 := by omega
    rw [if_pos (nI_le (by omega) (by omega))]
    refine wp_pu (Or.inr ⟨_, rfl, ws_z1 ⟨?_, hq⟩⟩)
    rw [← this, ha]
def mxN (D : TO) (a : Nat) : Nat → Nat
  | 0 => a
  | k + 1 => if mxN D a k < (D.2 1 k).toNatClampNeg then (D.2 1 k).toNatClampNeg else mxN D a k
theorem mx_le {D : TO} {a : Nat} : ∀ {n : Nat}, a ≤ mxN D a n ∧ ∀ k, k < n → (D.2 1 k).toNatClampNeg ≤ mxN D a n
  | 0 => ⟨Nat.le_refl a, fun k hk => by omega⟩
  | n + 1 => by
    obtain ⟨h1, h2⟩ := mx_le (D := D) (a := a) (n := n)
    show a ≤ (if mxN D a n < (D.2 1 n).toNatClampNeg then _ else _) ∧ ∀ k, k < n + 1 → _ ≤ (if mxN D a n < (D.2 1 n).toNatClampNeg then _ else _)
    by_cases q : mxN D a n < (D.2 1 n).toNatClampNeg
    · rw [if_pos q]
      refine ⟨by omega, fun k hk => ?_⟩
      by_cases z : k = n
      · rw [z]; exact Nat.le_refl _
      · have := h2 k (by omega); omega
    · rw [if_neg q]
      refine ⟨h1, fun k hk => ?_⟩
      by_cases z : k = n
      · rw [z]; omega
      · exact h2 k (by omega)
theorem mx_12 {T : TW} {D : TO} {a : Nat} (vD : VTo T D) (ha : a ≤ 12) : ∀ n, n ≤ D.1 → mxN D a n ≤ 12
  | 0, _ => ha
  | n + 1, h => by
    show (if mxN D a n < (D.2 1 n).toNatClampNeg then _ else _) ≤ 12
    obtain ⟨-, ⟨j, hj, ej⟩, -⟩ := vD.2 n (by omega)
    have := mx_12 vD ha n (by omega)
    rw [ej, cl_n (by omega)]
    split <;> omega
theorem ag_pt {T : TW} {U : SK} {D : TO} {E : Nat} (vD : VTo T D) (hE : ∀ k, k < D.1 → (D.2 1 k).toNatClampNeg ≤ E) (h : ∀ h, h ≤ E → alF (agP T U D h) D.1 = true) : ptD T U D = true := by
  refine al_t.mpr (fun k hk => ?_)
  obtain ⟨-, ⟨j, hj, ej⟩, -⟩ := vD.2 k hk
  have h1 := al_t.mp (h (D.2 1 k).toNatClampNeg (hE k hk)) k hk
  unfold agP at h1
  rw [ej, cl_n (by omega)] at h1
  simpa using h1
theorem ag_pf {T : TW} {U : SK} {D : TO} {h : Nat} (hf : alF (agP T U D h) D.1 = false) : ptD T U D = false := by
  cases hb : ptD T U D with
  | false => rfl
  | true =>
    have := al_t (p := agP T U D h) (n := D.1)
    rw [this.mpr (fun k hk => by unfold agP; rw [al_t.mp hb k hk]; simp)] at hf
    exact absurd hf (by decide)
theorem ks_comesTrue {T : TW} {U : SK} {D : TO} {σ : MM} {a : Nat} (hV : VTn T) (hT : CTn T σ) (vD : VTo T D) (hD : CTo 134 D σ) (hS : CSk T 43 U σ) (ha : a ≤ 12) : wp (FX6_comesTrue 134 (nI a)) σ (fun r τ => r = ptD T U D ∧ eqr (fun b j => RtC b j ∨ b = 143) σ τ ∧ (ptD T U D = true → ∀ p, p < T.1 1 → τ.1 143 p = weS T (pnS T U a) p)) := by
  have v4 := hV.1.2.1
  have vn := vD.1
  unfold FX6_comesTrue
  rw [r134_1, r134_7, r134_9, r43_0]
  refine ws_it (fun k s τ => s = (nI (mxN D a k), nI k) ∧ τ = σ) D.1 (by omega) ⟨rfl, rfl⟩ ?_
  rintro k s τ hk ⟨rfl, rfl⟩
  refine ws_gv hD.1 ?_
  by_cases hkn : k < D.1
  · rw [if_neg (nle_n hkn (by omega))]
    obtain ⟨-, d1, -⟩ := hD.2 k hkn
    obtain ⟨-, ⟨j, hj, ej⟩, -⟩ := vD.2 k hkn
    refine ws_a (by omega) (by decide) (d1.trans ej) ?_
    rw [lt_eq, lt_eq]
    refine wp_pu (Or.inl ⟨_, rfl, hkn, ?_, rfl⟩)
    have m12 := mx_12 vD ha k (by omega)
    have es : mxN D a (k + 1) = if mxN D a k < j then j else mxN D a k := by
      show (if mxN D a k < (D.2 1 k).toNatClampNeg then (D.2 1 k).toNatClampNeg else mxN D a k) = _
      rw [ej, cl_n (by omega)]
    rw [es, nI_1]
    by_cases z : mxN D a k < j
    · rw [if_pos z, if_pos ((nI_ltI (by omega) (by omega)).mpr z)]
    · rw [if_neg z, if_neg (fun q => z ((nI_ltI (by omega) (by omega)).mp q))]
  · have : k = D.1 := by omega
    rw [if_pos (nI_le (by omega) (by omega))]
    refine wp_pu (Or.inr ⟨_, rfl, ?_⟩)
    rw [this]
    obtain ⟨E, hE⟩ : ∃ E, mxN D a D.1 = E := ⟨_, rfl⟩
    have hE12 := mx_12 vD ha D.1 (Nat.le_refl _)
    obtain ⟨ha1, hk1⟩ := mx_le (D := D) (a := a) (n := D.1)
    rw [hE] at hE12 ha1 hk1
    rw [hE]
    refine ws_it (fun h s υ => s = nI h ∧ CSk T 43 (pnS T U (h - 1)) υ ∧ eqr (fun b j => RtC b j ∨ b = 143) τ υ ∧ (∀ h', h' < h → alF (agP T U D h') D.1 = true) ∧ (a < h → ∀ p, p < T.1 1 → υ.1 143 p = weS T (pnS T U a) p)) (E + 1) (by omega) ⟨rfl, hS, eqr_rf, fun h' hh => by omega, fun hh => by omega⟩ ?_
    rintro h s υ0 hh ⟨rfl, hS0, hq0, hag, hsn0⟩
    have n143 : ∀ {b j : Nat}, ¬ (b = 14 ∨ (42 ≤ b ∧ b ≤ 47) ∨ b = 143) → ¬ (RtC b j ∨ b = 143) := fun hn q => by unfold RtC at q; omega
    by_cases hhn : h < E + 1
    · rw [if_neg (show ¬ nI E < nI h from fun z => by have := (nI_ltI (by omega) (by omega)).mp z; omega)]
      refine wp_bd (Q := fun _ υ => CSk T 43 (pnS T U h) υ ∧ eqr (fun b j => RtC b j ∨ b = 143) τ υ ∧ (a < h → ∀ p, p < T.1 1 → υ.1 143 p = weS T (pnS T U a) p)) ?_ ?_
      · have hT0 : CTn T υ0 := CTn_r hq0 (fun b j _ _ => n143 (by omega)) hT
        by_cases z : h = 0
        · subst z
          rw [if_pos (show nI 0 ≤ 0 by decide)]
          exact wp_pu ⟨hS0, hq0, hsn0⟩
        · obtain ⟨g, rfl⟩ : ∃ g, h = g + 1 := ⟨h - 1, by omega⟩
          have hS1 : CSk T 43 (pnS T U g) υ0 := hS0
          rw [if_neg (show ¬ nI (g + 1) ≤ 0 from nle_n (a := 0) (by omega) (by omega))]
          refine wp_bd (ks_pass hV hT0 o43 hS1 true) ?_
          rintro r ω3 ⟨-, g1, g2⟩
          exact wp_pu ⟨g1, eqr_tr hq0 (eqr_mono g2 (fun b j z => by unfold RtC; omega)), fun hl p' hp' => (g2.1 _ _ (by omega)).trans (hsn0 hl p' hp')⟩
      rintro _ υ ⟨hS2, hq, hsn⟩
      have hT2 : CTn T υ := CTn_r hq (fun b j _ _ => n143 (by omega)) hT
      have hD2 : CTo 134 D υ := CTo_r hq ⟨n143 (by omega), fun j => ⟨n143 (by omega), n143 (by omega), n143 (by omega)⟩⟩ hD
      refine wp_bd (ks_agrees hV hT2 vD hD2 hS2 (by omega)) ?_
      rintro r ω ⟨rfl, q1⟩
      have hq1 : eqr (fun b j => RtC b j ∨ b = 143) τ ω := eqr_tr hq (eqr_mono q1 (fun b j z => by unfold RtC; omega))
      have hS3 : CSk T 43 (pnS T U h) ω := CSk_r q1 (fun j => by omega) (by omega) hS2
      cases hb : alF (agP T U D h) D.1 with
      | false =>
        rw [if_pos (show b2i false = 0 from rfl)]
        refine wp_pu (Or.inr ⟨_, rfl, ws_z0 ⟨(ag_pf hb).symm, hq1, fun z => ?_⟩⟩)
        rw [ag_pf hb] at z
        exact absurd z (by decide)
      | true =>
        rw [if_neg (show ¬ b2i true = 0 by decide)]
        refine wp_bd (Q := fun _ ω2 => CSk T 43 (pnS T U h) ω2 ∧ eqr (fun b j => RtC b j ∨ b = 143) τ ω2 ∧ (a < h + 1 → ∀ p, p < T.1 1 → ω2.1 143 p = weS T (pnS T U a) p)) ?_ ?_
        · by_cases z : h = a
          · subst z
            rw [← bd_pu (it _ FU _)]
            refine ws_it (fun p s ω2 => s = nI p ∧ CSk T 43 (pnS T U h) ω2 ∧ eqr (fun b j => RtC b j ∨ b = 143) τ ω2 ∧ ∀ p', p' < p → ω2.1 143 p' = weS T (pnS T U h) p') (T.1 1) (by omega) ⟨rfl, hS3, hq1, fun p' hp' => by omega⟩ ?_
            rintro p s ω2 hp ⟨rfl, hS4, hq2, hw⟩
            rw [if_pos rfl]
            have hT3 : CTn T ω2 := CTn_r hq2 (fun b j _ _ => n143 (by omega)) hT
            refine ws_gv hT3.1.2.1 ?_
            by_cases hpn : p < T.1 1
            · rw [if_neg (nle_n hpn (by omega))]
              obtain ⟨ω3, e3, q3, -⟩ := ks_weather hV hT3 o43 hS4 hpn 0
              have e3' : FX4_weather 43 (nI p) 0 ω2 = some (weS T (pnS T U h) p, ω3) := e3
              refine wp_eq e3' (ws_u (by omega) (by decide) ?_)
              rw [lt_eq]
              have q4 : eqr (fun b _ => b = 143) ω3 (up2 ω3.1 143 p (weS T (pnS T U h) p), ω3.2) := eqr_up rfl
              refine wp_pu (Or.inl ⟨_, rfl, hpn, nI_1 p, CSk_r q4 (fun j => by omega) (by omega) (CSk_r q3 (fun j => by omega) (by omega) hS4), eqr_tr hq2 (eqr_tr (eqr_mono q3 (fun b j z => by unfold RtC; omega)) (eqr_mono q4 (fun b j z => Or.inr z))), fun p' hp' => ?_⟩)
              by_cases z : p' = p
              · subst z; exact mm_at
              · exact (mm_ne (by omega)).trans ((q3.1 _ _ (by omega)).trans (hw p' (by omega)))
            · have : p = T.1 1 := by omega
              rw [if_pos (nI_le (by omega) (by omega))]
              exact wp_pu (Or.inr ⟨_, rfl, wp_pu ⟨hS4, hq2, fun _ p' hp' => hw p' (by omega)⟩⟩)
          · rw [← bd_pu (it _ FU _)]
            refine ws_it (fun p s ω2 => s = nI p ∧ ω2 = ω) 0 (by decide) ⟨rfl, rfl⟩ ?_
            rintro p s ω2 hp ⟨rfl, rfl⟩
            rw [if_neg (show ¬ nI h = nI a from fun e => z ((nI_eq (by omega) (by omega)).mp e))]
            refine wp_pu (Or.inr ⟨_, rfl, wp_pu ⟨hS3, hq1, fun hl p' hp' => ?_⟩⟩)
            exact (q1.1 _ _ (by omega)).trans (hsn (by omega) p' hp')
        · rintro _ ω2 ⟨hS4, hq2, hsn2⟩
          rw [lt_eq]
          refine wp_pu (Or.inl ⟨_, rfl, hhn, nI_1 h, hS4, hq2, fun h' hh' => ?_, hsn2⟩)
          by_cases z : h' = h
          · rw [z]; exact hb
          · exact hag h' (by omega)
    · have : h = E + 1 := by omega
      rw [if_pos (show nI E < nI h from nIlt (by omega) (by omega))]
      have hp : ptD T U D = true := ag_pt vD hk1 (fun h' hh' => hag h' (by omega))
      exact wp_pu (Or.inr ⟨_, rfl, ws_z1 ⟨hp.symm, hq0, fun _ => hsn0 (by omega)⟩⟩)
/-! the sums over all pairs -/
def fi2 {α : Type} (st : Nat → Nat → α → α) (c : Nat) (x : α) : Nat → α
  | 0 => x
  | l + 1 => st c l (fi2 st c x l)
def fo2 {α : Type} (st : Nat → Nat → α → α) (n : Nat) (x : α) : Nat → α
  | 0 => x
  | c + 1 => fi2 st c (fo2 st n x c) n
theorem fi2_id {α : Type} {st : Nat → Nat → α → α} {c : Nat} {x : α} (h : ∀ l x, st c l x = x) : ∀ n, fi2 st c x n = x
  | 0 => rfl
  | n + 1 => by
    show st c n (fi2 st c x n) = x
    rw [h, fi2_id h n]
def prB (T : TW) (S : SK) (D : TO) (c l : Nat) : Bool := decide (S 1 c = -1) && (decide (¬ frS T S l < 1) && ptD T (puS S c (nI l) 1) D)
def st3 (T : TW) (S : SK) (D : TO) (c l : Nat) (X : Int32 × Int32 × Int32) : Int32 × Int32 × Int32 := if prB T S D c l = true then (X.1 + 1, X.2.1 ||| ((1 : Int32) <<< (nI c &&& 31)), X.2.2 ||| ((1 : Int32) <<< (nI l &&& 31))) else X
def stY (T : TW) (S : SK) (D : TO) (a c l : Nat) (Y : Nat → Nat → Int32) : Nat → Nat → Int32 := if prB T S D c l = true then (fun p k => if nI k = weS T (pnS T (puS S c (nI l) 1) a) p + 1 then Y p k + 1 else Y p k) else Y
theorem we_1 (T : TW) (S : SK) (p : Nat) : ∃ k, k < 5 ∧ weS T S p + 1 = nI k := by
  rcases we_ex T S p with q | ⟨k, hk, q⟩
  · exact ⟨0, by decide, by rw [q]; decide⟩
  · exact ⟨k + 1, by omega, by rw [q, nI_1]⟩
/-- the class's rows of pairs -/
def PCr (T : TW) (X : Int32 × Int32 × Int32) (Y : Nat → Nat → Int32) (τ : MM) : Prop := τ.1 134 4 = X.1 ∧ τ.1 134 5 = X.2.1 ∧ τ.1 134 6 = X.2.2 ∧ ∀ p, p < T.1 1 → ∀ k, k < 5 → τ.1 (139 + p) k = Y p k
theorem PCr_r {R : Nat → Nat → Prop} {T : TW} {X : Int32 × Int32 × Int32} {Y : Nat → Nat → Int32} {σ τ : MM} (v4 : T.1 1 ≤ 4) (h : eqr R σ τ) (hR : ∀ b j, b = 134 ∨ (139 ≤ b ∧ b ≤ 142) → ¬ R b j) (hP : PCr T X Y σ) : PCr T X Y τ := by
  obtain ⟨h1, h2, h3, h4⟩ := hP
  refine ⟨(h.1 _ _ (hR _ _ (by omega))).trans h1, (h.1 _ _ (hR _ _ (by omega))).trans h2, (h.1 _ _ (hR _ _ (by omega))).trans h3, fun p hp k hk => (h.1 _ _ (hR _ _ (by omega))).trans (h4 p hp k hk)⟩
theorem rf138 : ∀ i, i < 4 → rf 138 i = 139 + i := by decide +kernel
theorem ks_tryPair {T : TW} {S : SK} {D : TO} {σ : MM} {a c l : Nat} {X : Int32 × Int32 × Int32} {Y : Nat → Nat → Int32} (hV : VTn T) (hT : CTn T σ) (vD : VTo T D) (hD : CTo 134 D σ) (hl : S 1 c = -1) (hf : ¬ frS T S l < 1) (hS : CSk T 43 (puS S c (nI l) 1) σ) (ha : a ≤ 12) (hP : PCr T X Y σ) : wp (FX6_tryPair 134 (nI c) (nI l) (nI a)) σ (fun _ τ => PCr T (st3 T S D c l X) (stY T S D a c l Y) τ ∧ eqr RpC σ τ) := by
  have v4 := hV.1.2.1
  unfold FX6_tryPair
  rw [r134_7, r134_8, r134_9, r43_0]
  have eb : prB T S D c l = ptD T (puS S c (nI l) 1) D := by unfold prB; simp [hl, hf]
  refine wp_bd (ks_comesTrue hV hT vD hD hS ha) ?_
  rintro r τ ⟨rfl, hq, hw⟩
  have hP1 : PCr T X Y τ := PCr_r v4 hq (fun b j h q => by unfold RtC at q; omega) hP
  have hq1 : eqr RpC σ τ := eqr_mono hq (fun b j z => by unfold RpC RtC; unfold RtC at z; omega)
  unfold st3 stY
  rw [eb]
  cases hb : ptD T (puS S c (nI l) 1) D with
  | false =>
    rw [if_pos (show b2i false = 0 from rfl), if_neg (by decide), if_neg (by decide)]
    exact wp_pu ⟨hP1, hq1⟩
  | true =>
    rw [if_neg (show ¬ b2i true = 0 by decide), if_pos rfl, if_pos rfl]
    have hw' := hw hb
    obtain ⟨p1, p2, p3, p4⟩ := hP1
    refine ws_gv p1 (ws_s (ws_gv (x := X.2.1) ((mm_ne (by omega)).trans p2) (ws_s (ws_gv (x := X.2.2) (show up2 (up2 τ.1 134 4 (X.1 + 1)) 134 5 (X.2.1 ||| ((1 : Int32) <<< (nI c &&& 31))) 134 6 = _ by rw [up2_ne (by omega), up2_ne (by omega)]; exact p3) (ws_s ?_)))))
    show wp _ (up2 (up2 (up2 τ.1 134 4 (X.1 + 1)) 134 5 (X.2.1 ||| ((1 : Int32) <<< (nI c &&& 31)))) 134 6 (X.2.2 ||| ((1 : Int32) <<< (nI l &&& 31))), τ.2) _
    have hq2 : eqr (fun b j => b = 134 ∧ 4 ≤ j) τ (up2 (up2 (up2 τ.1 134 4 (X.1 + 1)) 134 5 (X.2.1 ||| ((1 : Int32) <<< (nI c &&& 31)))) 134 6 (X.2.2 ||| ((1 : Int32) <<< (nI l &&& 31))), τ.2) := by
      refine ⟨fun b j h => ?_, rfl⟩
      show up2 (up2 (up2 τ.1 134 4 (X.1 + 1)) 134 5 (X.2.1 ||| ((1 : Int32) <<< (nI c &&& 31)))) 134 6 (X.2.2 ||| ((1 : Int32) <<< (nI l &&& 31))) b j = _
      rw [up2_ne (by omega), up2_ne (by omega), up2_ne (by omega)]
    have k1 : ((up2 (up2 (up2 τ.1 134 4 (X.1 + 1)) 134 5 (X.2.1 ||| ((1 : Int32) <<< (nI c &&& 31)))) 134 6 (X.2.2 ||| ((1 : Int32) <<< (nI l &&& 31))), τ.2) : MM).1 134 4 = X.1 + 1 := (mm_ne (by omega)).trans ((up2_ne (by omega)).trans up2_at)
    have k2 : ((up2 (up2 (up2 τ.1 134 4 (X.1 + 1)) 134 5 (X.2.1 ||| ((1 : Int32) <<< (nI c &&& 31)))) 134 6 (X.2.2 ||| ((1 : Int32) <<< (nI l &&& 31))), τ.2) : MM).1 134 5 = X.2.1 ||| ((1 : Int32) <<< (nI c &&& 31)) := (mm_ne (by omega)).trans up2_at
    have k3 : ((up2 (up2 (up2 τ.1 134 4 (X.1 + 1)) 134 5 (X.2.1 ||| ((1 : Int32) <<< (nI c &&& 31)))) 134 6 (X.2.2 ||| ((1 : Int32) <<< (nI l &&& 31))), τ.2) : MM).1 134 6 = X.2.2 ||| ((1 : Int32) <<< (nI l &&& 31)) := mm_at
    generalize ((up2 (up2 (up2 τ.1 134 4 (X.1 + 1)) 134 5 (X.2.1 ||| ((1 : Int32) <<< (nI c &&& 31)))) 134 6 (X.2.2 ||| ((1 : Int32) <<< (nI l &&& 31))), τ.2) : MM) = τ2 at hq2 k1 k2 k3
    refine ws_it (fun p s υ => s = nI p ∧ eqr (fun b _ => 139 ≤ b ∧ b ≤ 142) τ2 υ ∧ ∀ p', p' < T.1 1 → ∀ k, k < 5 → υ.1 (139 + p') k = if p' < p then (if nI k = weS T (pnS T (puS S c (nI l) 1) a) p' + 1 then Y p' k + 1 else Y p' k) else Y p' k) (T.1 1) (by omega) ⟨rfl, eqr_rf, fun p' hp' k hk => by rw [if_neg (by omega)]; exact (hq2.1 _ _ (by omega)).trans (p4 p' hp' k hk)⟩ ?_
    rintro p s υ hp ⟨rfl, hq3, hy⟩
    have hT2 : CTn T υ := CTn_r hq3 (fun b j _ _ => by omega) (CTn_r hq2 (fun b j _ _ => by omega) (pc_T hq1 hT))
    refine ws_gv hT2.1.2.1 ?_
    by_cases hpn : p < T.1 1
    · rw [if_neg (nle_n hpn (by omega))]
      refine wp_eq (show gd (ib (nI p) 4 = true) υ = some ((), υ) by unfold gd; rw [if_pos (ib_n (by omega) (by decide))]) ?_
      rw [cl_n (by omega), rf138 p (by omega)]
      refine ws_a (x := weS T (pnS T (puS S c (nI l) 1) a) p) (by omega) (by decide) ((hq3.1 _ _ (by omega)).trans ((hq2.1 _ _ (by omega)).trans (hw' p hpn))) ?_
      obtain ⟨k, hk, ek⟩ := we_1 T (pnS T (puS S c (nI l) 1) a) p
      rw [ek]
      have hyk := hy p hpn k hk
      rw [if_neg (by omega)] at hyk
      refine ws_a hk (by decide) hyk (ws_u hk (by decide) ?_)
      rw [lt_eq]
      refine wp_pu (Or.inl ⟨_, rfl, hpn, nI_1 p, eqr_tr hq3 (eqr_up (by omega)), fun p' hp' k' hk' => ?_⟩)
      by_cases z : p' = p
      · subst z
        rw [if_pos (by omega), ek]
        by_cases z2 : k' = k
        · subst z2
          rw [if_pos rfl]
          exact mm_at
        · rw [if_neg (fun e => z2 ((nI_eq (by omega) (by omega)).mp e))]
          have := hy p' hp' k' hk'
          rw [if_neg (by omega)] at this
          exact (mm_ne (by omega)).trans this
      · have := hy p' hp' k' hk'
        refine (mm_ne (by omega)).trans (this.trans ?_)
        by_cases z2 : p' < p
        · rw [if_pos z2, if_pos (show p' < p + 1 by omega)]
        · rw [if_neg z2, if_neg (by omega)]
    · rw [if_pos (nI_le (by omega) (by omega))]
      refine wp_pu (Or.inr ⟨_, rfl, wp_pu ⟨⟨(hq3.1 _ _ (by omega)).trans k1, (hq3.1 _ _ (by omega)).trans k2, (hq3.1 _ _ (by omega)).trans k3, fun p' hp' k hk => ?_⟩, eqr_tr hq1 (eqr_tr (eqr_mono hq2 (fun b j z => by unfold RpC; omega)) (eqr_mono hq3 (fun b j z => by unfold RpC; omega)))⟩⟩)
      have := hy p' hp' k hk
      rw [if_pos (by omega)] at this
      exact this
