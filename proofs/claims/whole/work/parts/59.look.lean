/-! ===== pairs, look ===== -/
theorem le0_1 (x : Int32) : (x ≤ 0) = (x < 1) := by
  apply propext
  rw [Int32.le_iff_toInt_le, Int32.lt_iff_toInt_lt]
  have e1 : (1 : Int32).toInt = 1 := rfl
  have e2 : (0 : Int32).toInt = 0 := rfl
  omega
theorem st3_no {T : TW} {S : SK} {D : TO} {c : Nat} (h : ¬ S 1 c = -1) (l : Nat) (X : Int32 × Int32 × Int32) : st3 T S D c l X = X := by
  unfold st3
  rw [if_neg (by unfold prB; simp [h])]
theorem stY_no {T : TW} {S : SK} {D : TO} {a c : Nat} (h : ¬ S 1 c = -1) (l : Nat) (Y : Nat → Nat → Int32) : stY T S D a c l Y = Y := by
  unfold stY
  rw [if_neg (by unfold prB; simp [h])]
theorem c_findPairs {T : TW} {S : SK} {D : TO} {σ : MM} {a : Nat} (hV : VTn T) (hT : CTn T σ) (hS : CSk T 38 S σ) (vD : VTo T D) (hD : CTo 134 D σ) (ha : a ≤ 12) : wp (FX6_findPairs 134 38 (nI a)) σ (fun _ τ => PCr T (fo2 (st3 T S D) (T.1 0) (0, 0, 0) (T.1 2)) (fo2 (stY T S D a) (T.1 0) (fun _ _ => 0) (T.1 2)) τ ∧ eqr RpC σ τ) := by
  have v4 := hV.1.2.1
  have v5 := hV.1.1
  have v6 := hV.1.2.2.1
  unfold FX6_findPairs
  rw [r134_7, r134_8, r38_0]
  refine ws_s (ws_s (ws_s ?_))
  show wp _ ((up2 (up2 (up2 σ.1 134 4 0) 134 5 0) 134 6 0, σ.2) : MM) _
  have hq0 : eqr (fun b j => b = 134 ∧ 4 ≤ j) σ (up2 (up2 (up2 σ.1 134 4 0) 134 5 0) 134 6 0, σ.2) := by
    refine ⟨fun b j h => ?_, rfl⟩
    show up2 (up2 (up2 σ.1 134 4 0) 134 5 0) 134 6 0 b j = _
    rw [up2_ne (by omega), up2_ne (by omega), up2_ne (by omega)]
  have k1 : ((up2 (up2 (up2 σ.1 134 4 0) 134 5 0) 134 6 0, σ.2) : MM).1 134 4 = 0 := (mm_ne (by omega)).trans ((up2_ne (by omega)).trans up2_at)
  have k2 : ((up2 (up2 (up2 σ.1 134 4 0) 134 5 0) 134 6 0, σ.2) : MM).1 134 5 = 0 := (mm_ne (by omega)).trans up2_at
  have k3 : ((up2 (up2 (up2 σ.1 134 4 0) 134 5 0) 134 6 0, σ.2) : MM).1 134 6 = 0 := mm_at
  generalize ((up2 (up2 (up2 σ.1 134 4 0) 134 5 0) 134 6 0, σ.2) : MM) = τ at hq0 k1 k2 k3
  refine ws_it (fun p s υ => s = nI p ∧ eqr (fun b _ => 139 ≤ b ∧ b ≤ 142) τ υ ∧ ∀ p', p' < p → ∀ k, k < 5 → υ.1 (139 + p') k = 0) 4 (by decide) ⟨rfl, eqr_rf, fun p' hp' => by omega⟩ ?_
  rintro p s υ hp ⟨rfl, hq1, hz⟩
  by_cases hpn : p < 4
  · rw [if_neg (show ¬ (4 : Int32) ≤ nI p from nle_n hpn (by decide))]
    refine ws_it (fun k s ω => s = nI k ∧ eqr (fun b _ => 139 ≤ b ∧ b ≤ 142) τ ω ∧ (∀ p', p' < p → ∀ k, k < 5 → ω.1 (139 + p') k = 0) ∧ ∀ k', k' < k → ω.1 (139 + p) k' = 0) 5 (by decide) ⟨rfl, hq1, hz, fun k' hk' => by omega⟩ ?_
    rintro k s ω hk ⟨rfl, hq2, hz2, hz3⟩
    by_cases hkn : k < 5
    · rw [if_neg (show ¬ (4 : Int32) < nI k from fun z => by have := (nI_ltI (a := 4) (by decide) (by omega)).mp z; omega)]
      refine wp_eq (show gd (ib (nI p) 4 = true) ω = some ((), ω) by unfold gd; rw [if_pos (ib_n (by omega) (by decide))]) ?_
      rw [cl_n (by omega), rf138 p hpn]
      refine ws_u hkn (by decide) ?_
      rw [lt_eq]
      refine wp_pu (Or.inl ⟨_, rfl, hkn, nI_1 k, eqr_tr hq2 (eqr_up (by omega)), fun p' hp' k' hk' => (mm_ne (by omega)).trans (hz2 p' hp' k' hk'), fun k' hk' => ?_⟩)
      by_cases z : k' = k
      · subst z; exact mm_at
      · exact (mm_ne (by omega)).trans (hz3 k' (by omega))
    · rw [if_pos (show (4 : Int32) < nI k from nIlt (a := 4) (by omega) (by omega))]
      refine wp_pu (Or.inr ⟨_, rfl, ?_⟩)
      rw [lt_eq]
      refine wp_pu (Or.inl ⟨_, rfl, hpn, nI_1 p, hq2, fun p' hp' k' hk' => ?_⟩)
      by_cases z : p' = p
      · rw [z]; exact hz3 k' (by omega)
      · exact hz2 p' (by omega) k' hk'
  · rw [if_pos (show (4 : Int32) ≤ nI p from nI_le (a := 4) (by omega) (by omega))]
    refine wp_pu (Or.inr ⟨_, rfl, ?_⟩)
    have hqa : eqr RpC σ υ := eqr_tr (eqr_mono hq0 (fun b j z => by unfold RpC; omega)) (eqr_mono hq1 (fun b j z => by unfold RpC; omega))
    refine ws_it (fun c s ω => s = nI c ∧ PCr T (fo2 (st3 T S D) (T.1 0) (0, 0, 0) c) (fo2 (stY T S D a) (T.1 0) (fun _ _ => 0) c) ω ∧ eqr RpC σ ω) (T.1 2) (by omega) ⟨rfl, ⟨(hq1.1 _ _ (by omega)).trans k1, (hq1.1 _ _ (by omega)).trans k2, (hq1.1 _ _ (by omega)).trans k3, fun p' hp' k hk => hz p' (by omega) k hk⟩, hqa⟩ ?_
    rintro c s ω hc ⟨rfl, hP, hq⟩
    refine ws_gv (pc_T hq hT).1.2.2.1 ?_
    by_cases hcn : c < T.1 2
    · rw [if_neg (nle_n hcn (by omega))]
      by_cases hl : S 1 c = -1
      · refine ws_it (fun l s ω2 => s = nI l ∧ PCr T (fi2 (st3 T S D) c (fo2 (st3 T S D) (T.1 0) (0, 0, 0) c) l) (fi2 (stY T S D a) c (fo2 (stY T S D a) (T.1 0) (fun _ _ => 0) c) l) ω2 ∧ eqr RpC σ ω2) (T.1 0) (by omega) ⟨rfl, hP, hq⟩ ?_
        rintro l s ω2 hll ⟨rfl, hP2, hq2⟩
        refine wp_eq (ks_lies (pc_T hq2 hT) o38 (pc_S hq2 hS) (nI c)) ?_
        rw [li_n v6 hcn, if_neg (by simp [hl, b2i])]
        refine ws_gv (pc_T hq2 hT).1.1 ?_
        by_cases hln : l < T.1 0
        · rw [if_neg (nle_n hln (by omega))]
          refine wp_eq (ks_freeOn (pc_T hq2 hT) o38 (pc_S hq2 hS) hln) ?_
          refine wp_bd (Q := fun _ ω3 => PCr T (st3 T S D c l (fi2 (st3 T S D) c (fo2 (st3 T S D) (T.1 0) (0, 0, 0) c) l)) (stY T S D a c l (fi2 (stY T S D a) c (fo2 (stY T S D a) (T.1 0) (fun _ _ => 0) c) l)) ω3 ∧ eqr RpC σ ω3) ?_ ?_
          · by_cases z : frS T S l ≤ 0
            · rw [if_pos z]
              have np : ¬ prB T S D c l = true := by
                have : frS T S l < 1 := by rw [← le0_1]; exact z
                unfold prB
                simp [this]
              unfold st3 stY
              rw [if_neg np, if_neg np]
              exact wp_pu ⟨hP2, hq2⟩
            · rw [if_neg z]
              obtain ⟨τ1, e1, g1, g2⟩ := ks_copy v6 o43 o38 (by omega) (pc_S hq2 hS)
              refine wp_eq e1 ?_
              obtain ⟨τ2, e2, g3, g4⟩ := ks_putUp (l := nI l) (k := 1) v6 o43 g1 hcn
              refine wp_eq e2 ?_
              have g5 : eqr RtC ω2 τ2 := eqr_tr (eqr_mono g2 (fun b j z => by unfold RtC; omega)) (eqr_mono g4 (fun b j z => by unfold RtC; omega))
              have hq3 : eqr RpC σ τ2 := eqr_tr hq2 (eqr_mono g5 (fun b j z => Or.inl z))
              have hP3 := PCr_r v4 g5 (fun b j h q => by unfold RtC at q; omega) hP2
              refine wp_bd (ks_tryPair hV (pc_T hq3 hT) vD (pc_D hq3 hD) hl (by rw [← le0_1]; exact z) g3 ha hP3) ?_
              rintro _ τ3 ⟨g6, g7⟩
              exact wp_pu ⟨g6, eqr_tr hq3 g7⟩
          · rintro _ ω3 ⟨g1, g2⟩
            rw [lt_eq]
            exact wp_pu (Or.inl ⟨_, rfl, hln, nI_1 l, g1, g2⟩)
        · have : l = T.1 0 := by omega
          rw [if_pos (nI_le (by omega) (by omega))]
          refine wp_pu (Or.inr ⟨_, rfl, ?_⟩)
          rw [lt_eq]
          rw [this] at hP2
          exact wp_pu (Or.inl ⟨_, rfl, hcn, nI_1 c, hP2, hq2⟩)
      · refine ws_it (fun l s ω2 => s = nI l ∧ ω2 = ω) 0 (by decide) ⟨rfl, rfl⟩ ?_
        rintro l s ω2 hll ⟨rfl, rfl⟩
        refine wp_eq (ks_lies (pc_T hq hT) o38 (pc_S hq hS) (nI c)) ?_
        rw [li_n v6 hcn, if_pos (by simp [hl, b2i])]
        refine wp_pu (Or.inr ⟨_, rfl, ?_⟩)
        rw [lt_eq]
        refine wp_pu (Or.inl ⟨_, rfl, hcn, nI_1 c, ?_, hq⟩)
        show PCr T (fi2 (st3 T S D) c (fo2 (st3 T S D) (T.1 0) (0, 0, 0) c) (T.1 0)) (fi2 (stY T S D a) c (fo2 (stY T S D a) (T.1 0) (fun _ _ => 0) c) (T.1 0)) _
        rw [fi2_id (st3_no hl), fi2_id (stY_no hl)]
        exact hP
    · have : c = T.1 2 := by omega
      rw [if_pos (nI_le (by omega) (by omega))]
      rw [this] at hP
      exact wp_pu (Or.inr ⟨_, rfl, wp_pu ⟨hP, hq⟩⟩)
def mxI (f : Nat → Int32) : Nat → Int32
  | 0 => 0
  | k + 1 => if mxI f k < f k then f k else mxI f k
def mnF (f : Nat → Int32) (m0 : Int32) : Nat → Int32 × Int32
  | 0 => (-1, m0)
  | k + 1 => if (mnF f m0 k).2 ≤ f k then mnF f m0 k else (nI k, f k)
theorem mn_1 {f : Nat → Int32} {m0 : Int32} {k : Nat} : (mnF f m0 (k + 1)).1 = (if (mnF f m0 k).2 ≤ f k then (mnF f m0 k).1 else nI k) := by
  show (if (mnF f m0 k).2 ≤ f k then mnF f m0 k else (nI k, f k)).1 = _
  by_cases q : (mnF f m0 k).2 ≤ f k <;> simp [q]
theorem mn_2 {f : Nat → Int32} {m0 : Int32} {k : Nat} : (mnF f m0 (k + 1)).2 = (if (mnF f m0 k).2 ≤ f k then (mnF f m0 k).2 else f k) := by
  show (if (mnF f m0 k).2 ≤ f k then mnF f m0 k else (nI k, f k)).2 = _
  by_cases q : (mnF f m0 k).2 ≤ f k <;> simp [q]
def loF (T : TW) (X : Int32 × Int32 × Int32) (Y : Nat → Nat → Int32) : Int32 := (mnF (fun p => mxI (Y p) 5) X.1 (T.1 1)).1
theorem c_bestPlace {T : TW} {X : Int32 × Int32 × Int32} {Y : Nat → Nat → Int32} {σ : MM} (hV : VTn T) (hT : CTn T σ) (hP : PCr T X Y σ) : FX6_bestPlace 134 σ = some (loF T X Y, σ) := by
  have v4 := hV.1.2.1
  obtain ⟨p1, -, -, p4⟩ := hP
  unfold FX6_bestPlace
  rw [r134_7, r134_8, r43_0]
  refine (ev_bd (show gI 134 4 σ = some (X.1, σ) by unfold gI; rw [p1])).trans ?_
  have hg : gI 3 10 σ = some (nI (T.1 1), σ) := by unfold gI; rw [hT.1.2.1]
  refine (bd_it (fun p => ((mnF (fun p => mxI (Y p) 5) X.1 p).1, (mnF (fun p => mxI (Y p) 5) X.1 p).2, nI p)) (T.1 1) rfl ?_ ?_ (by omega)).trans rfl
  · intro p hp
    refine (ev_bd hg).trans ?_
    rw [if_neg (nle_n hp (by omega))]
    refine (bd_it (r := mxI (Y p) 5) (fun k => (mxI (Y p) k, nI k)) 5 rfl ?_ ?_ (by decide)).trans ?_
    · intro k hk
      rw [if_neg (show ¬ (4 : Int32) < nI k from fun z => by have := (nI_ltI (a := 4) (by decide) (by omega)).mp z; omega)]
      refine (ev_bd (show gd (ib (nI p) 4 = true) σ = some ((), σ) by unfold gd; rw [if_pos (ib_n (by omega) (by decide))])).trans ?_
      have e1 := ev_aI (a := 139 + p) (n := 5) (σ := σ) hk (by decide)
      rw [p4 p hp k hk] at e1
      show bd (aI (rf 138 (nI p).toNatClampNeg) 5 (nI k)) _ σ = _
      rw [cl_n (by omega), rf138 p (by omega)]
      refine (ev_bd e1).trans ?_
      show some _ = some _
      rw [nI_1]
      rfl
    · rw [if_pos (show (4 : Int32) < nI 5 by decide)]
      rfl
    · by_cases z : (mnF (fun p => mxI (Y p) 5) X.1 p).2 ≤ mxI (Y p) 5 <;> simp [bd, z, mn_1, mn_2, lt, pu, nI_1]
  · refine (ev_bd hg).trans ?_
    rw [if_pos (le_nn (by omega))]
    rfl
def paX (A : AB) : Int32 × Int32 × Int32 := fo2 (st3 A.1 A.2.1.1 A.2.1.2.2) (A.1.1 0) (0, 0, 0) (A.1.1 2)
def paY (A : AB) (a : Nat) : Nat → Nat → Int32 := fo2 (stY A.1 A.2.1.1 A.2.1.2.2 a) (A.1.1 0) (fun _ _ => 0) (A.1.1 2)
def paR (A : AB) (x : Int32) : Int32 := if (decide (¬ x < 0) && decide (¬ 2 < x)) = true then (if x = 0 then (paX A).1 else if x = 1 then (paX A).2.1 else (paX A).2.2) else -1
def loR (A : AB) (x : Int32) : Int32 := if (decide (¬ x < 0) && decide (¬ 12 < x)) = true then loF A.1 (paX A) (paY A x.toNatClampNeg) else -1
theorem c_pairs {A : AB} {σ : MM} (hV : VA A) (hA : CA A σ) (x : Int32) : wp (FX11_pairs 0 x) σ (fun r τ => r = paR A x ∧ eqr RpC σ τ) := by
  unfold FX11_pairs paR
  rw [r0_5, r0_9]
  by_cases w : (decide (¬ x < 0) && decide (¬ 2 < x)) = true
  · rw [if_pos w]
    have w2 := w
    simp only [Bool.and_eq_true, decide_eq_true_eq] at w2
    rw [if_neg w2.1, if_pos (Int32.not_lt.mp w2.2)]
    refine wp_bd (c_findPairs (a := 0) hV.1 hA.1 hA.2.1.1 hV.2.1.2.2 hA.2.1.2.2 (by decide)) ?_
    rintro _ τ ⟨⟨p1, p2, p3, -⟩, hq⟩
    by_cases x0 : x = 0
    · rw [if_pos x0, if_pos x0]
      exact ws_gv p1 (wp_pu ⟨rfl, hq⟩)
    · rw [if_neg x0, if_neg x0]
      by_cases x1 : x = 1
      · rw [if_pos x1, if_pos x1]
        exact bd_asw (ws_gv p2 (wp_eq (show pu _ τ = some (_, τ) from rfl) (wp_pu ⟨rfl, hq⟩)))
      · rw [if_neg x1, if_neg x1]
        exact bd_asw (ws_gv p3 (wp_eq (show pu _ τ = some (_, τ) from rfl) (wp_pu ⟨rfl, hq⟩)))
  · rw [if_neg w]
    by_cases w1 : x < 0
    · rw [if_pos w1]; exact wp_pu ⟨rfl, eqr_rf⟩
    · rw [if_neg w1]
      by_cases w2 : x ≤ 2
      · exact absurd (by simp [w1, Int32.not_lt.mpr w2]) w
      · rw [if_neg w2]; exact wp_pu ⟨rfl, eqr_rf⟩
theorem c_look {A : AB} {σ : MM} (hV : VA A) (hA : CA A σ) (x : Int32) : wp (FX11_look 0 x) σ (fun r τ => r = loR A x ∧ eqr RpC σ τ) := by
  unfold FX11_look loR
  rw [r0_5, r0_9]
  by_cases w : (decide (¬ x < 0) && decide (¬ 12 < x)) = true
  · rw [if_pos w]
    have w2 := w
    simp only [Bool.and_eq_true, decide_eq_true_eq] at w2
    rw [if_neg w2.1, if_pos (Int32.not_lt.mp w2.2)]
    obtain ⟨a, ha, rfl⟩ := wi_ex (n := 12) rfl w
    rw [cl_n (by omega)]
    refine wp_bd (c_findPairs (a := a) hV.1 hA.1 hA.2.1.1 hV.2.1.2.2 hA.2.1.2.2 ha) ?_
    rintro _ τ ⟨hP, hq⟩
    exact wp_eq (c_bestPlace hV.1 (pc_T hq hA.1) hP) (wp_pu ⟨rfl, hq⟩)
  · rw [if_neg w]
    by_cases w1 : x < 0
    · rw [if_pos w1]; exact wp_pu ⟨rfl, eqr_rf⟩
    · rw [if_neg w1]
      by_cases w2 : x ≤ 12
      · exact absurd (by simp [w1, Int32.not_lt.mpr w2]) w
      · rw [if_neg w2]; exact wp_pu ⟨rfl, eqr_rf⟩
