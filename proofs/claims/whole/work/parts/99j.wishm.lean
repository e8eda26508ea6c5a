/-! ===== wishes: the model's search ===== -/
theorem zb_b (b : Bool) (σ : MM) : zb (b2i b) σ = some (b, σ) := by cases b <;> rfl
theorem ud_ne {g : Nat → Nat} {c k i : Nat} (h : i ≠ c) : ud g c k i = g i := by simp [ud, h]
theorem ud_at {g : Nat → Nat} {c k : Nat} : ud g c k c = k := by simp [ud]
def e7 (f : Nat) : Int32 := if f < 7 then nI f else -1
def RwM (b j : Nat) : Prop := RtM b j ∨ b = 267 ∨ b = 268 ∨ (b = 249 ∧ j = 28)
theorem RwM_sc (b j : Nat) (h : RwM b j) : 249 ≤ b ∧ scM b j := by unfold RwM RtM at h; unfold scM; omega
theorem RwM_no {b j : Nat} (h : ¬ (b = 263 ∨ b = 264 ∨ (b = 265 ∧ 882 ≤ j) ∨ b = 267 ∨ b = 268 ∨ (b = 249 ∧ j = 28))) : ¬ RwM b j := fun q => by unfold RwM RtM at q; omega
theorem wm_T {T : TW} {σ τ : MM} (h : eqr RwM σ τ) (hT : MTn T σ) : MTn T τ := MTn_r h (fun b j _ _ => RwM_no (by omega)) hT
theorem wm_S {T : TW} {S : SK} {σ τ : MM} (h6 : T.1 2 ≤ 6) (h : eqr RwM σ τ) (hS : MSk T 0 S σ) : MSk T 0 S τ := MSk_r h h6 (fun j _ _ => RwM_no (by omega)) hS
/-- best of those looked at -/
def Rs (P : RQ) (X : (Nat → Nat) → Prop) (f : Nat) (b : Nat → Nat) (f' : Nat) (b' : Nat → Nat) : Prop := (f' = f ∧ b' = b ∧ ∀ h, X h → f ≤ sz P h (qC P)) ∨ (f' < f ∧ X b' ∧ f' = sz P b' (qC P) ∧ ∀ h, X h → f' < sz P h (qC P) ∨ (f' = sz P h (qC P) ∧ lxe (qC P) b' h))
theorem Rs_no {P : RQ} {X : (Nat → Nat) → Prop} {f : Nat} {b : Nat → Nat} (h : ∀ g, ¬ X g) : Rs P X f b f b := Or.inl ⟨rfl, rfl, fun g hg => (h g hg).elim⟩
theorem Rs_iff {P : RQ} {X Y : (Nat → Nat) → Prop} {f f' : Nat} {b b' : Nat → Nat} (h : ∀ g, X g ↔ Y g) (hR : Rs P X f b f' b') : Rs P Y f b f' b' := by
  rcases hR with ⟨h1, h2, h3⟩ | ⟨h1, h2, h3, h4⟩
  · exact Or.inl ⟨h1, h2, fun g hg => h3 g ((h g).mpr hg)⟩
  · exact Or.inr ⟨h1, (h _).mp h2, h3, fun g hg => h4 g ((h g).mpr hg)⟩
theorem Rs_or {P : RQ} {X Y Z : (Nat → Nat) → Prop} {f f1 f2 : Nat} {b b1 b2 : Nat → Nat} (h1 : Rs P X f b f1 b1) (h2 : Rs P Y f1 b1 f2 b2) (hl : ∀ g h, X g → Y h → lx (qC P) g h) (hZ : ∀ g, Z g ↔ X g ∨ Y g) : Rs P Z f b f2 b2 := by
  rcases h1 with ⟨rfl, rfl, a3⟩ | ⟨a1, a2, a3, a4⟩
  · rcases h2 with ⟨rfl, rfl, c3⟩ | ⟨c1, c2, c3, c4⟩
    · exact Or.inl ⟨rfl, rfl, fun g hg => ((hZ g).mp hg).elim (a3 g) (c3 g)⟩
    · refine Or.inr ⟨c1, (hZ _).mpr (Or.inr c2), c3, fun g hg => ?_⟩
      rcases (hZ g).mp hg with q | q
      · have := a3 g q
        exact Or.inl (by omega)
      · exact c4 g q
  · rcases h2 with ⟨rfl, rfl, c3⟩ | ⟨c1, c2, c3, c4⟩
    · refine Or.inr ⟨a1, (hZ _).mpr (Or.inl a2), a3, fun g hg => ?_⟩
      rcases (hZ g).mp hg with q | q
      · exact a4 g q
      · have := c3 g q
        by_cases z : f2 = sz P g (qC P)
        · exact Or.inr ⟨z, Or.inr (hl _ _ a2 q)⟩
        · exact Or.inl (by omega)
    · refine Or.inr ⟨by omega, (hZ _).mpr (Or.inr c2), c3, fun g hg => ?_⟩
      rcases (hZ g).mp hg with q | q
      · have := a4 g q
        exact Or.inl (by omega)
      · exact c4 g q
theorem FF_s {P : RQ} {g h : Nat → Nat} {c k : Nat} (hc : c < qC P) (hk : gF P (ud g c k) c) : FF P (ud g c k) (c + 1) h ↔ FF P g c h ∧ h c = k := by
  constructor
  · intro ⟨h1, h2, h3⟩
    have e : h c = k := by rw [h1 c (by omega)]; simp [ud]
    refine ⟨⟨fun i hi => by rw [h1 i (by omega)]; simp [ud]; omega, fun i hi1 hi2 => ?_, h3⟩, e⟩
    by_cases q : i = c
    · subst q
      have e2 : ct h (h i) i = ct (ud g i k) (ud g i k i) i := by
        rw [h1 i (by omega)]
        exact ct_cong (fun j hj => h1 j (by omega))
      unfold gF at hk ⊢
      rw [e2, h1 i (by omega)]
      exact hk
    · exact h2 i (by omega) hi2
  · intro ⟨⟨h1, h2, h3⟩, e⟩
    refine ⟨fun i hi => ?_, fun i hi1 hi2 => h2 i (by omega) hi2, h3⟩
    by_cases q : i = c
    · subst q; rw [e]; simp [ud]
    · rw [h1 i (by omega)]; simp [ud, q]
theorem FF_c {P : RQ} {g h : Nat → Nat} {c : Nat} (hc : c < qC P) (hF : FF P g c h) : gF P (ud g c (h c)) c := by
  have := hF.2.1 c (by omega) hc
  have e1 : ud g c (h c) c = h c := by simp [ud]
  have e2 : ct (ud g c (h c)) (h c) c = ct h (h c) c := ct_cong (fun j hj => by rw [hF.1 j hj]; simp [ud]; omega)
  unfold gF at this ⊢
  rw [e1, e2]
  exact this
theorem sz_c {P : RQ} {g h : Nat → Nat} {c : Nat} (hc : c ≤ qC P) (h1 : ∀ i, i < c → h i = g i) : sz P g c ≤ sz P h (qC P) := by
  rw [sz_cong (h := h) (fun i hi => (h1 i hi).symm)]
  exact zsm_mono hc
theorem sz_ud {P : RQ} {g : Nat → Nat} {c k : Nat} : sz P (ud g c k) (c + 1) = sz P g c + (if k < qL P then 1 else 0) := by
  show zsm (hu P (ud g c k)) c + hu P (ud g c k) c = _
  have e1 : zsm (hu P (ud g c k)) c = sz P g c := zsm_cong (fun i hi => by unfold hu; rw [ud_ne (by omega)])
  rw [e1]
  unfold hu
  rw [ud_at]
/-- the model's memory, at a row -/
def WM (T : TW) (S : SK) (g : Nat → Nat) (c f : Nat) (b : Nat → Nat) (τ : MM) : Prop := (∃ U, MSk T 882 U τ ∧ VSk T U ∧ skA T U (skg S g c)) ∧ (∀ k, k < c → τ.1 267 k = eI (g k)) ∧ τ.1 249 28 = e7 f ∧ (f < 7 → ∀ k, k < T.1 2 → τ.1 268 k = eI (b k))
theorem m_isWanted {T : TW} {U : SK} {W : Nat → Int32} {σ : MM} (hV : VTn T) (hT : MTn T σ) (hS : MSk T 882 U σ) (hv : VSk T U) (hW : MWa 0 W σ) : ∃ r, FX12_isWanted 249 (882 : Int32) σ = some (r, σ) ∧ (r = true ↔ ∀ p, p < T.1 1 → W p = -2 ∨ W p = weS T U p) := by
  have v4 := hV.1.2.1
  refine ⟨alF (fun p => decide (W p = -2 ∨ W p = weS T U p)) (T.1 1), ?_, by rw [al_t]; simp⟩
  unfold FX12_isWanted
  rw [r249_23]
  have hp := ms_places hT
  refine (bd_it (fun k => (b2i (alF (fun p => decide (W p = -2 ∨ W p = weS T U p)) k), nI k)) (T.1 1) rfl ?_ ?_ (by omega)).trans (zb_b _ _)
  · intro k hk
    have i1 : (19 : Int32) + nI k = nI (19 + k) := nI_add 19 k
    have e1 := ev_aI (a := 265) (n := 966) (σ := σ) (show 19 + k < 966 by omega) (by decide)
    rw [show σ.1 265 (19 + k) = W k from by have := hW k (by omega); simpa using this] at e1
    have w2 : FX12_weatherOf 249 (882 : Int32) (nI k) σ = some (weS T U k, σ) := ms_weather (b := 882) hV hT okBt hS hv hk
    have es : alF (fun p => decide (W p = -2 ∨ W p = weS T U p)) (k + 1) = (alF (fun p => decide (W p = -2 ∨ W p = weS T U p)) k && decide (W k = -2 ∨ W k = weS T U k)) := rfl
    rw [es]
    cases hb : alF (fun p => decide (W p = -2 ∨ W p = weS T U p)) k with
    | false => simp [bd, hp, nle_n hk (by omega), b2i, lt, pu, nI_1]
    | true =>
      by_cases z1 : W k = -2
      · simp [bd, hp, nle_n hk (by omega), b2i, lt, pu, nI_1, i1, e1, z1]
      · by_cases z2 : W k = weS T U k
        · rw [z2] at z1 e1
          simp [bd, hp, nle_n hk (by omega), b2i, lt, pu, nI_1, i1, e1, z1, w2, z2]
        · simp [bd, hp, nle_n hk (by omega), b2i, lt, pu, nI_1, i1, e1, z1, w2, z2]
  · simp [bd, hp, le_nn (show T.1 1 < 2 ^ 31 by omega), pu]
theorem m_wishes {T : TW} {S : SK} {W : Nat → Int32} {σ : MM} (hV : VTn T) (hT : MTn T σ) (hS : MSk T 0 S σ) (hv : VSk T S) (vW : VWa T W) (hW : MWa 0 W σ) : ∀ (d fuel c : Nat) (g : Nat → Nat) (f : Nat) (b : Nat → Nat) (τ : MM), d + c = T.1 2 → d < fuel → rOk T S g c → f ≤ 7 → eqr RwM σ τ → WM T S g c f b τ → wp (FX12_wishes fuel 249 (nI c) (nI (sz (PW T S W) g c))) τ (fun _ υ => eqr RwM σ υ ∧ ∃ f' b', f' ≤ 7 ∧ WM T S g c f' b' υ ∧ Rs (PW T S W) (FF (PW T S W) g c) f b f' b') := by
  have v5 := hV.1.1
  have v4 := hV.1.2.1
  have v6 := hV.1.2.2.1
  intro d
  induction d with
  | zero =>
    intro fuel c g f b τ hd hf hr hf7 hq hW0
    cases fuel with
    | zero => omega
    | succ fuel =>
      have hc : c = T.1 2 := by omega
      have hsz : sz (PW T S W) g c ≤ c := zsm_1 (fun k => by unfold hu; split <;> omega)
      obtain ⟨⟨U, u1, u2, u3⟩, w2, w3, w4⟩ := id hW0
      show wp (GX12_wishes (FX12_wishes fuel) 249 (nI c) (nI (sz (PW T S W) g c))) τ _
      unfold GX12_wishes
      refine ws_gv w3 ?_
      unfold jn
      dsimp only
      have stop : f ≤ sz (PW T S W) g c → wp (pu () : PP Unit) τ (fun _ υ => eqr RwM σ υ ∧ ∃ f' b', f' ≤ 7 ∧ WM T S g c f' b' υ ∧ Rs (PW T S W) (FF (PW T S W) g c) f b f' b') := fun h => wp_pu ⟨hq, f, b, hf7, hW0, Or.inl ⟨rfl, rfl, fun h2 hF => Nat.le_trans h (sz_c (by show c ≤ T.1 2; omega) hF.1)⟩⟩
      have main : sz (PW T S W) g c < f → wp (bd (FX12_cloths 249) (fun x5 => if nI c = x5 then bd (FX12_isWanted 249 (882 : Int32)) (fun x17 => bd (if ((b2i x17)) = 0 then pu () else bd (sI 249 28 (nI (sz (PW T S W) g c))) (fun (_ : Unit) => bd (it (fun (s18 : Int32) => (if (6 : Int32) ≤ s18 then pu (Sum.inr ()) else bd (aI (rf 249 26) 6 s18) (fun x19 => bd (uI (rf 249 27) 6 s18 x19) (fun (_ : Unit) => lt (s18 + (1 : Int32)) (fun y20 => pu (Sum.inl y20)))) : PP ((Int32) ⊕ (Unit)))) FU (0 : Int32)) (fun (v21 : Unit) => pu ())) : PP (Unit)) (fun (v22 : Unit) => pu ())) else bd (it (fun (s6 : Int32) => (bd (FX12_lines 249) (fun x7 => if x7 ≤ s6 then pu (Sum.inr ()) else bd (FX12_doesHang 249 (0 : Int32) (nI c)) (fun x8 => if ((b2i x8)) = 0 then bd (FX12_freeOf 249 (882 : Int32) s6) (fun x9 => bd (if x9 ≤ 0 then pu () else bd (FX12_hangs 249 (882 : Int32) (nI c) s6 (1 : Int32)) (fun (_ : Unit) => bd (uI (rf 249 26) 6 (nI c) s6) (fun (_ : Unit) => bd ((FX12_wishes fuel) 249 (nI c + (1 : Int32)) (nI (sz (PW T S W) g c) + (1 : Int32))) (fun (_ : Unit) => bd (FX12_comesDown 249 (882 : Int32) (nI c)) (fun (_ : Unit) => pu ())))) : PP (Unit)) (fun (v13 : Unit) => lt (s6 + (1 : Int32)) (fun y14 => pu (Sum.inl y14)))) else pu (Sum.inr ()))) : PP ((Int32) ⊕ (Unit)))) FU (0 : Int32)) (fun (v15 : Unit) => bd (uI (rf 249 26) 6 (nI c) (-1 : Int32)) (fun (_ : Unit) => bd ((FX12_wishes fuel) 249 (nI c + (1 : Int32)) (nI (sz (PW T S W) g c))) (fun (_ : Unit) => pu ()))))) τ (fun _ υ => eqr RwM σ υ ∧ ∃ f' b', f' ≤ 7 ∧ WM T S g c f' b' υ ∧ Rs (PW T S W) (FF (PW T S W) g c) f b f' b') := by
        intro hlt
        refine wp_eq (m_cloths (wm_T hq hT).1) ?_
        rw [if_pos (by rw [hc])]
        have hW' : MWa 0 W τ := MWa_r hq (fun j _ _ => RwM_no (by omega)) hW
        obtain ⟨r, er, hr2⟩ := m_isWanted hV (wm_T hq hT) u1 u2 hW'
        refine wp_eq er ?_
        rw [mts_row hV vW u3 hr (by omega), hc] at hr2
        cases r with
        | false =>
          refine wp_eq (show (if b2i false = 0 then (pu () : PP Unit) else _) τ = some ((), τ) from rfl) ?_
          refine wp_pu ⟨hq, f, b, hf7, hW0, Rs_no (fun h hF => ?_)⟩
          have : Mts (PW T S W) g (T.1 2) := fun p hp => by
            have := hF.2.2 p hp
            rwa [show nN (PW T S W) h p (qC (PW T S W)) = nN (PW T S W) g p (T.1 2) from funext fun j => nN_cong (fun i hi => hF.1 i (by show i < c; have : i < T.1 2 := hi; omega))] at this
          exact absurd (hr2.mpr this) (by decide)
        | true =>
          have hM := hr2.mp rfl
          refine wp_bd (Q := fun _ υ => eqr RwM τ υ ∧ υ.1 249 28 = nI (sz (PW T S W) g c) ∧ (∀ k, k < 6 → υ.1 268 k = τ.1 267 k) ∧ (∀ j, υ.1 267 j = τ.1 267 j) ∧ ∀ j, υ.1 265 j = τ.1 265 j) ?_ ?_
          · rw [if_neg (show ¬ b2i true = 0 by decide), r249_26, r249_27]
            refine ws_s ?_
            refine ws_it (fun k s υ => s = nI k ∧ eqr RwM τ υ ∧ υ.1 249 28 = nI (sz (PW T S W) g c) ∧ (∀ i, i < k → υ.1 268 i = τ.1 267 i) ∧ (∀ j, υ.1 267 j = τ.1 267 j) ∧ ∀ j, υ.1 265 j = τ.1 265 j) 6 (by decide) ⟨rfl, eqr_up (by unfold RwM; omega), (show up2 τ.1 249 28 (nI (sz (PW T S W) g c)) 249 28 = _ from up2_at), fun i hi => by omega, fun j => (show up2 τ.1 249 28 (nI (sz (PW T S W) g c)) 267 j = τ.1 267 j from up2_ne (by omega)), fun j => (show up2 τ.1 249 28 (nI (sz (PW T S W) g c)) 265 j = τ.1 265 j from up2_ne (by omega))⟩ ?_
            rintro k s υ hk ⟨rfl, g1, g2, g3, g4, g5⟩
            by_cases hk6 : k < 6
            · rw [if_neg (show ¬ (6 : Int32) ≤ nI k from nle_n hk6 (by decide))]
              refine ws_a hk6 (by decide) (g4 k) (ws_u hk6 (by decide) ?_)
              rw [lt_eq]
              refine wp_pu (Or.inl ⟨_, rfl, hk6, nI_1 k, eqr_tr g1 (eqr_up (by unfold RwM; omega)), (show up2 υ.1 268 k (τ.1 267 k) 249 28 = υ.1 249 28 from up2_ne (by omega)).trans g2, fun i hi => ?_, fun j => (show up2 υ.1 268 k (τ.1 267 k) 267 j = υ.1 267 j from up2_ne (by omega)).trans (g4 j), fun j => (show up2 υ.1 268 k (τ.1 267 k) 265 j = υ.1 265 j from up2_ne (by omega)).trans (g5 j)⟩)
              by_cases z : i = k
              · subst z; exact up2_at
              · exact (show up2 υ.1 268 k (τ.1 267 k) 268 i = υ.1 268 i from up2_ne (by omega)).trans (g3 i (by omega))
            · have : k = 6 := by omega
              subst this
              rw [if_pos (show (6 : Int32) ≤ nI 6 by decide)]
              exact wp_pu (Or.inr ⟨_, rfl, wp_pu ⟨g1, g2, g3, g4, g5⟩⟩)
          · rintro _ υ ⟨g1, g2, g3, g4, g5⟩
            refine wp_pu ⟨eqr_tr hq g1, sz (PW T S W) g c, g, by omega, ⟨⟨U, ⟨(g5 _).trans u1.1, fun i hi => ?_⟩, u2, u3⟩, fun k hk => (g4 k).trans (w2 k hk), ?_, fun _ k hk => (g3 k (by omega)).trans (w2 k (by omega))⟩, Or.inr ⟨hlt, ⟨fun i _ => rfl, fun k h1 h2 => by have : k < T.1 2 := h2; omega, hM⟩, by rw [hc]; rfl, fun h hF => Or.inr ⟨?_, Or.inl (fun k hk => (hF.1 k (by have : k < T.1 2 := hk; omega)).symm)⟩⟩⟩
            · rw [g5, g5, g5]; exact u1.2 i hi
            · rw [g2]; unfold e7; rw [if_pos (by omega)]
            · rw [hc]; exact sz_cong (fun i hi => (hF.1 i (by have : i < T.1 2 := hi; omega)).symm)
      by_cases z : e7 f < 0
      · rw [if_pos z]
        have : f = 7 := by
          unfold e7 at z
          by_cases q : f < 7
          · rw [if_pos q] at z; exact absurd z (nI_pos (by omega))
          · omega
        exact main (by omega)
      · rw [if_neg z]
        have hf6 : f < 7 := by
          unfold e7 at z
          by_cases q : f < 7
          · exact q
          · rw [if_neg q] at z; exact absurd (by decide) z
        refine ws_gv w3 ?_
        have e : e7 f = nI f := by unfold e7; rw [if_pos hf6]
        by_cases q : sz (PW T S W) g c < f
        · rw [if_pos (by rw [e]; exact nI_lt q (by omega))]
          exact main q
        · rw [if_neg (by rw [e]; exact nI_nlt (by omega) (by omega))]
          exact stop (by omega)
  | succ d ih =>
    intro fuel c g f b τ hd hf hr hf7 hq hW0
    cases fuel with
    | zero => omega
    | succ fuel =>
      have hc : c < T.1 2 := by omega
      have hsz : sz (PW T S W) g c ≤ c := zsm_1 (fun k => by unfold hu; split <;> omega)
      obtain ⟨⟨U, u1, u2, u3⟩, w2, w3, w4⟩ := id hW0
      show wp (GX12_wishes (FX12_wishes fuel) 249 (nI c) (nI (sz (PW T S W) g c))) τ _
      unfold GX12_wishes
      refine ws_gv w3 ?_
      unfold jn
      dsimp only
      have stop : f ≤ sz (PW T S W) g c → wp (pu () : PP Unit) τ (fun _ υ => eqr RwM σ υ ∧ ∃ f' b', f' ≤ 7 ∧ WM T S g c f' b' υ ∧ Rs (PW T S W) (FF (PW T S W) g c) f b f' b') := fun h => wp_pu ⟨hq, f, b, hf7, hW0, Or.inl ⟨rfl, rfl, fun h2 hF => Nat.le_trans h (sz_c (by show c ≤ T.1 2; omega) hF.1)⟩⟩
      have main : wp (bd (FX12_cloths 249) (fun x5 => if nI c = x5 then bd (FX12_isWanted 249 (882 : Int32)) (fun x17 => bd (if ((b2i x17)) = 0 then pu () else bd (sI 249 28 (nI (sz (PW T S W) g c))) (fun (_ : Unit) => bd (it (fun (s18 : Int32) => (if (6 : Int32) ≤ s18 then pu (Sum.inr ()) else bd (aI (rf 249 26) 6 s18) (fun x19 => bd (uI (rf 249 27) 6 s18 x19) (fun (_ : Unit) => lt (s18 + (1 : Int32)) (fun y20 => pu (Sum.inl y20)))) : PP ((Int32) ⊕ (Unit)))) FU (0 : Int32)) (fun (v21 : Unit) => pu ())) : PP (Unit)) (fun (v22 : Unit) => pu ())) else bd (it (fun (s6 : Int32) => (bd (FX12_lines 249) (fun x7 => if x7 ≤ s6 then pu (Sum.inr ()) else bd (FX12_doesHang 249 (0 : Int32) (nI c)) (fun x8 => if ((b2i x8)) = 0 then bd (FX12_freeOf 249 (882 : Int32) s6) (fun x9 => bd (if x9 ≤ 0 then pu () else bd (FX12_hangs 249 (882 : Int32) (nI c) s6 (1 : Int32)) (fun (_ : Unit) => bd (uI (rf 249 26) 6 (nI c) s6) (fun (_ : Unit) => bd ((FX12_wishes fuel) 249 (nI c + (1 : Int32)) (nI (sz (PW T S W) g c) + (1 : Int32))) (fun (_ : Unit) => bd (FX12_comesDown 249 (882 : Int32) (nI c)) (fun (_ : Unit) => pu ())))) : PP (Unit)) (fun (v13 : Unit) => lt (s6 + (1 : Int32)) (fun y14 => pu (Sum.inl y14)))) else pu (Sum.inr ()))) : PP ((Int32) ⊕ (Unit)))) FU (0 : Int32)) (fun (v15 : Unit) => bd (uI (rf 249 26) 6 (nI c) (-1 : Int32)) (fun (_ : Unit) => bd ((FX12_wishes fuel) 249 (nI c + (1 : Int32)) (nI (sz (PW T S W) g c))) (fun (_ : Unit) => pu ()))))) τ (fun _ υ => eqr RwM σ υ ∧ ∃ f' b', f' ≤ 7 ∧ WM T S g c f' b' υ ∧ Rs (PW T S W) (FF (PW T S W) g c) f b f' b') := by
        refine wp_eq (m_cloths (wm_T hq hT).1) ?_
        rw [if_neg (fun e => by have := (nI_eq (by omega) (by omega)).mp e; omega), r249_26]
        have upto : ∀ (n : Nat) (h : Nat → Nat), (FF (PW T S W) g c h ∧ h c < n + 1) ↔ ((FF (PW T S W) g c h ∧ h c < n) ∨ (FF (PW T S W) g c h ∧ h c = n)) := fun n h => by
          constructor
          · rintro ⟨a, z⟩
            by_cases q : h c = n
            · exact Or.inr ⟨a, q⟩
            · exact Or.inl ⟨a, by omega⟩
          · rintro (⟨a, z⟩ | ⟨a, z⟩)
            · exact ⟨a, by omega⟩
            · exact ⟨a, by omega⟩
        have lxs : ∀ (n : Nat) (h1 h2 : Nat → Nat), (FF (PW T S W) g c h1 ∧ h1 c < n) → (FF (PW T S W) g c h2 ∧ n ≤ h2 c) → lx (qC (PW T S W)) h1 h2 := fun n h1 h2 ⟨a1, a2⟩ ⟨b1, b2⟩ => ⟨c, hc, fun i hi => by rw [a1.1 i hi, b1.1 i hi], by omega⟩
        -- what is left when no line is left
        have rest : ∀ (υ : MM) (f1 : Nat) (b1 : Nat → Nat), f1 ≤ 7 → eqr RwM σ υ → WM T S g c f1 b1 υ → Rs (PW T S W) (fun h => FF (PW T S W) g c h ∧ h c < 5) f b f1 b1 → wp (bd (uI 267 6 (nI c) (-1 : Int32)) (fun (_ : Unit) => bd ((FX12_wishes fuel) 249 (nI c + (1 : Int32)) (nI (sz (PW T S W) g c))) (fun (_ : Unit) => pu ()))) υ (fun _ υ => eqr RwM σ υ ∧ ∃ f' b', f' ≤ 7 ∧ WM T S g c f' b' υ ∧ Rs (PW T S W) (FF (PW T S W) g c) f b f' b') := by
          intro υ f1 b1 hf1 h1 h2 h3
          obtain ⟨⟨U1, a1, a2, a3⟩, x2, x3, x4⟩ := h2
          refine ws_u (by omega) (by decide) ?_
          have hsz2 : sz (PW T S W) (ud g c 5) (c + 1) = sz (PW T S W) g c := by
            rw [sz_ud, if_neg (by show ¬ 5 < T.1 0; omega)]
            omega
          rw [nI_1, ← hsz2]
          have hr5 : rOk T S (ud g c 5) (c + 1) := fun k hk => by
            by_cases z : k = c
            · exact Or.inr (by simp [ud, z])
            · have : ud g c 5 k = g k := by simp [ud, z]
              rw [this]; exact hr k (by omega)
          have hWn : WM T S (ud g c 5) (c + 1) f1 b1 (up2 υ.1 267 c (-1), υ.2) := by
            refine ⟨⟨U1, MSk_r (R := fun b _ => b = 267) (eqr_up rfl) v6 (fun j _ _ => by omega) a1, a2, by rw [skg_no]; exact a3⟩, fun k hk => ?_, (show up2 υ.1 267 c (-1) 249 28 = υ.1 249 28 from up2_ne (by omega)).trans x3, fun h k hk => (show up2 υ.1 267 c (-1) 268 k = υ.1 268 k from up2_ne (by omega)).trans (x4 h k hk)⟩
            by_cases z : k = c
            · subst z
              show up2 υ.1 267 k (-1) 267 k = _
              rw [up2_at]; simp [ud, eI]
            · show up2 υ.1 267 c (-1) 267 k = _
              rw [up2_ne (by omega), x2 k (by omega)]
              simp [ud, z]
          refine wp_bd (ih fuel (c + 1) (ud g c 5) f1 b1 _ (by omega) (by omega) hr5 hf1 (eqr_tr h1 (eqr_up (by unfold RwM; omega))) hWn) ?_
          rintro _ ω ⟨k1, f2, b2, k2, k3, k4⟩
          obtain ⟨⟨U2, c1, c2, c3⟩, y2, y3, y4⟩ := k3
          rw [skg_no] at c3
          refine wp_pu ⟨k1, f2, b2, k2, ⟨⟨U2, c1, c2, c3⟩, fun k hk => by rw [y2 k (by omega)]; simp [ud]; rw [if_neg (by omega)], y3, y4⟩, ?_⟩
          have g5 : gF (PW T S W) (ud g c 5) c := Or.inl (by simp [ud])
          refine Rs_or h3 k4 (fun h1 h2 hh1 hh2 => ?_) (fun h => ?_)
          · obtain ⟨q1, q2⟩ := (FF_s hc g5).mp hh2
            exact lxs 5 h1 h2 hh1 ⟨q1, by omega⟩
          · constructor
            · intro hF
              rcases hF.2.1 c (by omega) hc with z | z
              · exact Or.inr ((FF_s hc g5).mpr ⟨hF, z⟩)
              · have : h c < T.1 0 := z.1
                exact Or.inl ⟨hF, by omega⟩
            · rintro (z | z)
              · exact z.1
              · exact ((FF_s hc g5).mp z).1
        refine ws_it (fun k s υ => s = nI k ∧ k ≤ T.1 0 ∧ eqr RwM σ υ ∧ ∃ f1 b1, f1 ≤ 7 ∧ WM T S g c f1 b1 υ ∧ Rs (PW T S W) (fun h => FF (PW T S W) g c h ∧ h c < k) f b f1 b1) (T.1 0) (by omega) ⟨rfl, by omega, hq, f, b, hf7, hW0, Rs_no (fun h hh => by omega)⟩ ?_
        rintro k s υ hk ⟨rfl, -, h1, f1, b1, hf1, h2, h3⟩
        refine wp_eq (ms_lines (wm_T h1 hT)) ?_
        by_cases hkn : k < T.1 0
        · rw [if_neg (nle_n hkn (by omega))]
          have eh : FX12_doesHang 249 (0 : Int32) (nI c) υ = some (decide (¬ S 1 c = -1), υ) := ms_doesHang (b := 0) hV okB0 (wm_S v6 h1 hS) hv hc
          refine wp_eq eh ?_
          by_cases hy : S 1 c = -1
          · rw [if_pos (by simp [hy, b2i])]
            obtain ⟨⟨U1, a1, a2, a3⟩, x2, x3, x4⟩ := id h2
            refine wp_eq (show FX12_freeOf 249 (882 : Int32) (nI k) υ = some (frS T U1 k, υ) from ms_freeOf (b := 882) (wm_T h1 hT) okBt a1 hkn) ?_
            have hfree := row_free (W := W) hV hv a3 hr (by omega) hkn
            have hgk : gF (PW T S W) (ud g c k) c ↔ ¬ frS T U1 k ≤ 0 := by
              have e1 : ud g c k c = k := by simp [ud]
              have e2 : ct (ud g c k) k c = ct g k c := ct_cong (fun j hj => by simp [ud]; omega)
              unfold gF
              rw [e1, e2, hfree]
              constructor
              · rintro (z | z)
                · omega
                · exact z.2.2
              · intro z
                exact Or.inr ⟨hkn, by show decide (S 1 c = -1) = true; simp [hy], z⟩
            by_cases hfr : frS T U1 k ≤ 0
            · rw [if_pos hfr]
              refine wp_eq (show (pu () : PP Unit) υ = some ((), υ) from rfl) ?_
              rw [lt_eq]
              refine wp_pu (Or.inl ⟨_, rfl, hkn, nI_1 k, by omega, h1, f1, b1, hf1, h2, Rs_iff (fun h => ?_) h3⟩)
              rw [upto]
              constructor
              · exact Or.inl
              · rintro (z | ⟨z1, z2⟩)
                · exact z
                · have := FF_c hc z1
                  rw [z2] at this
                  exact absurd hfr (hgk.mp this)
            · rw [if_neg hfr]
              have hg1 := hgk.mpr hfr
              refine wp_bd (Q := fun _ ω => eqr RwM σ ω ∧ ∃ f2 b2, f2 ≤ 7 ∧ WM T S g c f2 b2 ω ∧ Rs (PW T S W) (FF (PW T S W) (ud g c k) (c + 1)) f1 b1 f2 b2) ?_ ?_
              · obtain ⟨τ1, e1, d1, d2⟩ := ms_hangs (b := 882) (l := nI k) (k := 1) v6 okBt a1 hc
                refine wp_eq e1 ?_
                refine ws_u (by omega) (by decide) ?_
                have hsz2 : sz (PW T S W) (ud g c k) (c + 1) = sz (PW T S W) g c + 1 := by
                  rw [sz_ud, if_pos (show k < qL (PW T S W) from hkn)]
                rw [nI_1, nI_1, ← hsz2]
                have hr2 : rOk T S (ud g c k) (c + 1) := fun i hi => by
                  by_cases z : i = c
                  · subst z; exact Or.inl ⟨by simp [ud]; exact hkn, hy⟩
                  · have : ud g c k i = g i := by simp [ud, z]
                    rw [this]; exact hr i (by omega)
                have d2' : eqr RwM υ τ1 := eqr_mono d2 (fun b j z => by unfold RwM RtM; omega)
                have hWn : WM T S (ud g c k) (c + 1) f1 b1 (up2 τ1.1 267 c (nI k), τ1.2) := by
                  refine ⟨⟨puS U1 c (nI k) 1, MSk_r (R := fun b _ => b = 267) (eqr_up rfl) v6 (fun j _ _ => by omega) d1, VSk_p1 a2 hkn, skA_up a3 (by omega)⟩, fun i hi => ?_, (show up2 τ1.1 267 c (nI k) 249 28 = τ1.1 249 28 from up2_ne (by omega)).trans ((d2.1 _ _ (by omega)).trans x3), fun h i hi => (show up2 τ1.1 267 c (nI k) 268 i = τ1.1 268 i from up2_ne (by omega)).trans ((d2.1 _ _ (by omega)).trans (x4 h i hi))⟩
                  by_cases z : i = c
                  · subst z
                    show up2 τ1.1 267 i (nI k) 267 i = _
                    rw [up2_at]; simp [ud, eI]; omega
                  · show up2 τ1.1 267 c (nI k) 267 i = _
                    rw [up2_ne (by omega), d2.1 _ _ (by omega), x2 i (by omega)]
                    simp [ud, z]
                refine wp_bd (ih fuel (c + 1) (ud g c k) f1 b1 _ (by omega) (by omega) hr2 hf1 (eqr_tr (eqr_tr h1 d2') (eqr_up (by unfold RwM; omega))) hWn) ?_
                rintro _ ω ⟨k1, f2, b2, k2, k3, k4⟩
                obtain ⟨⟨U2, c1, c2, c3⟩, y2, y3, y4⟩ := k3
                obtain ⟨ω1, e3, d3, d4⟩ := ms_comesDown (b := 882) v6 okBt c1 hc
                refine wp_eq e3 ?_
                refine wp_pu ⟨eqr_tr k1 (eqr_mono d4 (fun b j z => by unfold RwM RtM; omega)), f2, b2, k2, ⟨⟨dnS U2 c, d3, VSk_dn c2, skA_dn c3 hy⟩, fun i hi => ?_, (d4.1 _ _ (by omega)).trans y3, fun h i hi => (d4.1 _ _ (by omega)).trans (y4 h i hi)⟩, k4⟩
                rw [d4.1 _ _ (by omega), y2 i (by omega)]
                simp [ud]; rw [if_neg (by omega)]
              · rintro _ ω ⟨k1, f2, b2, k2, k3, k4⟩
                rw [lt_eq]
                refine wp_pu (Or.inl ⟨_, rfl, hkn, nI_1 k, by omega, k1, f2, b2, k2, k3, ?_⟩)
                refine Rs_or h3 k4 (fun h1 h2 hh1 hh2 => ?_) (fun h => ?_)
                · obtain ⟨q1, q2⟩ := (FF_s hc hg1).mp hh2
                  exact lxs k h1 h2 hh1 ⟨q1, by omega⟩
                · rw [upto, FF_s hc hg1]
          · rw [if_neg (by simp [hy, b2i])]
            refine wp_pu (Or.inr ⟨_, rfl, rest υ f1 b1 hf1 h1 h2 (Rs_iff (fun h => ?_) h3)⟩)
            have no : ∀ h, FF (PW T S W) g c h → h c = 5 := fun h hF => by
              rcases hF.2.1 c (by omega) hc with z | z
              · exact z
              · have : decide (S 1 c = -1) = true := z.2.1
                exact absurd (by simpa using this) hy
            constructor
            · rintro ⟨z1, z2⟩
              have := no h z1
              omega
            · rintro ⟨z1, z2⟩
              have := no h z1
              omega
        · have hkl : k = T.1 0 := by omega
          subst hkl
          rw [if_pos (le_nn (by omega))]
          refine wp_pu (Or.inr ⟨_, rfl, rest υ f1 b1 hf1 h1 h2 (Rs_iff (fun h => ?_) h3)⟩)
          constructor
          · rintro ⟨z1, z2⟩
            exact ⟨z1, by omega⟩
          · rintro ⟨z1, z2⟩
            rcases z1.2.1 c (by omega) hc with z | z
            · omega
            · exact ⟨z1, z.1⟩
      by_cases z : e7 f < 0
      · rw [if_pos z]
        exact main
      · rw [if_neg z]
        have hf6 : f < 7 := by
          unfold e7 at z
          by_cases q : f < 7
          · exact q
          · rw [if_neg q] at z; exact absurd (by decide) z
        refine ws_gv w3 ?_
        have e : e7 f = nI f := by unfold e7; rw [if_pos hf6]
        by_cases q : sz (PW T S W) g c < f
        · rw [if_pos (by rw [e]; exact nI_lt q (by omega))]
          exact main
        · rw [if_neg (by rw [e]; exact nI_nlt (by omega) (by omega))]
          exact stop (by omega)
