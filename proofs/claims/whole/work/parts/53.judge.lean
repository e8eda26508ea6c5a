/-! ===== judged ===== -/
def thB (T : TW) (S : SK) : Bool := decide (∃ p, p < T.1 1 ∧ weS T S p = 2)
theorem th_b {T : TW} {S : SK} {b : Bool} (h : b = true ↔ ∃ p, p < T.1 1 ∧ weS T S p = 2) : b = thB T S := by
  have e : thB T S = true ↔ ∃ p, p < T.1 1 ∧ weS T S p = 2 := by unfold thB; rw [decide_eq_true_eq]
  cases b with
  | true => exact (e.mpr (h.mp rfl)).symm
  | false =>
    cases hb : thB T S with
    | false => rfl
    | true => exact h.mpr (e.mp hb)
def jcan (T : TW) (S : SK) (d x y z : Int32) : Bool := if d = 3 then true else if d = 0 then decide (S 1 x.toNatClampNeg = -1) && decide (¬ frS T S y.toNatClampNeg < z) else if d = 1 then decide (¬ S 1 x.toNatClampNeg = -1) else decide (S 1 x.toNatClampNeg = -1)
def jnew (T : TW) (S : SK) (d x y z : Int32) : SK := if d = 3 then paS T S true else if jcan T S d x y z = true then (if d = 0 then puS S x.toNatClampNeg y z else if d = 1 then dnS S x.toNatClampNeg else soS T S x.toNatClampNeg) else S
def jw (b : Bool) (w : Int32) (i : Nat) : Int32 := if b = true then w else if w = -1 then nI i else w
def jst (T : TW) (P : TO) : Nat → SK × Int32 × Int32
  | 0 => (beS T, -1, -1)
  | i + 1 => (jnew T (jst T P i).1 (P.2 0 i) (P.2 1 i) (P.2 2 i) (P.2 3 i), jw (jcan T (jst T P i).1 (P.2 0 i) (P.2 1 i) (P.2 2 i) (P.2 3 i)) (jst T P i).2.1 i, jw (!thB T (jnew T (jst T P i).1 (P.2 0 i) (P.2 1 i) (P.2 2 i) (P.2 3 i))) (jst T P i).2.2 i)
theorem jw_ex {b : Bool} {w : Int32} {i : Nat} (hi : i < 1000) (h : w = -1 ∨ ∃ k, k < 1000 ∧ w = nI k) : jw b w i = -1 ∨ ∃ k, k < 1000 ∧ jw b w i = nI k := by
  unfold jw
  cases b
  · rw [if_neg (by decide)]
    by_cases q : w = -1
    · rw [if_pos q]; exact Or.inr ⟨i, hi, rfl⟩
    · rw [if_neg q]; exact h
  · rw [if_pos rfl]; exact h
theorem jst_ex {T : TW} {P : TO} : ∀ i, i < 1000 → ((jst T P i).2.1 = -1 ∨ ∃ k, k < 1000 ∧ (jst T P i).2.1 = nI k) ∧ ((jst T P i).2.2 = -1 ∨ ∃ k, k < 1000 ∧ (jst T P i).2.2 = nI k)
  | 0, _ => ⟨Or.inl rfl, Or.inl rfl⟩
  | i + 1, h => ⟨jw_ex (by omega) (jst_ex i (by omega)).1, jw_ex (by omega) (jst_ex i (by omega)).2⟩
theorem pos_m1 {w : Int32} (h : w = -1 ∨ ∃ k, k < 1000 ∧ w = nI k) : (0 ≤ w) = (¬ w = -1) := by
  rcases h with rfl | ⟨k, hk, rfl⟩
  · exact propext (by decide)
  · apply propext
    refine ⟨fun _ e => ?_, fun _ => nI_pos' (by omega)⟩
    exact absurd (show nI k < 0 by rw [e]; decide) (nI_pos (by omega))
/-- a row of a plan as it must be -/
def okRow (T : TW) (P : TO) (i : Nat) : Prop := (∃ d, d < 4 ∧ P.2 0 i = nI d) ∧ (¬ P.2 0 i = 3 → ∃ c, c < T.1 2 ∧ P.2 1 i = nI c) ∧ (P.2 0 i = 0 → (∃ l, l < T.1 0 ∧ P.2 2 i = nI l) ∧ ∃ k, 1 ≤ k ∧ k ≤ 3 ∧ P.2 3 i = nI k)
theorem VSk_jn {T : TW} {P : TO} {S : SK} {i : Nat} (hV : VTn T) (hr : okRow T P i) (hv : VSk T S) : VSk T (jnew T S (P.2 0 i) (P.2 1 i) (P.2 2 i) (P.2 3 i)) := by
  have h5 := hV.1.1
  unfold jnew
  by_cases q3 : P.2 0 i = 3
  · rw [if_pos q3]; exact VSk_pa hv
  · rw [if_neg q3]
    by_cases qc : jcan T S (P.2 0 i) (P.2 1 i) (P.2 2 i) (P.2 3 i) = true
    · rw [if_pos qc]
      by_cases q0 : P.2 0 i = 0
      · rw [if_pos q0]
        obtain ⟨⟨l, hl, el⟩, k, hk1, hk3, ek⟩ := hr.2.2 q0
        exact VSk_pu hv (Or.inr ⟨l, hl, el⟩) ⟨k, hk3, ek⟩
      · rw [if_neg q0]
        by_cases q1 : P.2 0 i = 1
        · rw [if_pos q1]; exact VSk_dn hv
        · rw [if_neg q1]; exact VSk_so hV hv
    · rw [if_neg qc]; exact hv
theorem VSk_js {T : TW} {P : TO} (hV : VTn T) {n : Nat} (hr : ∀ i, i < n → okRow T P i) : ∀ i, i ≤ n → VSk T (jst T P i).1
  | 0, _ => VSk_be hV
  | i + 1, h => VSk_jn hV (hr i (by omega)) (VSk_js hV hr i (by omega))
theorem ch_n {T : TW} {S : SK} {c l k : Nat} (h5 : T.1 0 ≤ 5) (h6 : T.1 2 ≤ 6) (hc : c < T.1 2) (hl : l < T.1 0) (h1 : 1 ≤ k) (h3 : k ≤ 3) : chS T S (nI c) (nI l) (nI k) = (decide (S 1 c = -1) && decide (¬ frS T S l < nI k)) := by
  unfold chS liS
  rw [inN_nI hc (by omega), inN_nI hl (by omega), cl_n (by omega), cl_n (by omega)]
  have a1 : ¬ nI k < 1 := fun z => by have := (nI_ltI (b := 1) (by omega) (by decide)).mp z; omega
  have a2 : ¬ 3 < nI k := fun z => by have := (nI_ltI (a := 3) (by decide) (by omega)).mp z; omega
  simp [a1, a2]
theorem ha_n {T : TW} {S : SK} {c : Nat} (h6 : T.1 2 ≤ 6) (hc : c < T.1 2) : haS T S (nI c) = decide (¬ S 1 c = -1) := by
  unfold haS
  rw [inN_nI hc (by omega), cl_n (by omega)]
  rfl
theorem li_n {T : TW} {S : SK} {c : Nat} (h6 : T.1 2 ≤ 6) (hc : c < T.1 2) : liS T S (nI c) = decide (S 1 c = -1) := by
  unfold liS
  rw [inN_nI hc (by omega), cl_n (by omega)]
  rfl
theorem tsw3 {α : Type} {a b c d : PP α} : tsw (nI 0) [(0 : Int32), (1 : Int32), (2 : Int32)] [a, b, c] d = a ∧ tsw (nI 1) [(0 : Int32), (1 : Int32), (2 : Int32)] [a, b, c] d = b ∧ tsw (nI 2) [(0 : Int32), (1 : Int32), (2 : Int32)] [a, b, c] d = c ∧ tsw (nI 3) [(0 : Int32), (1 : Int32), (2 : Int32)] [a, b, c] d = d := ⟨rfl, rfl, rfl, rfl⟩
theorem kt_isDone {T : TW} {P : TO} {S : SK} {σ : MM} {i : Nat} (hV : VTn T) (hT : CTn T σ) (hP : CPl P σ) (hi : i < P.1) (hi40 : P.1 ≤ 40) (hr : okRow T P i) (hS : CSk T 43 S σ) : wp (FX3_isDone 28 43 (nI i)) σ (fun b τ => b = jcan T S (P.2 0 i) (P.2 1 i) (P.2 2 i) (P.2 3 i) ∧ CSk T 43 (jnew T S (P.2 0 i) (P.2 1 i) (P.2 2 i) (P.2 3 i)) τ ∧ eqr RtC σ τ) := by
  have h5 := hV.1.1
  have h6 := hV.1.2.2.1
  obtain ⟨p1, p2, p3⟩ := hP.2 i hi
  unfold FX3_isDone
  rw [r28_0, r28_1, r28_2, r28_3]
  refine ws_a (x := σ.1 30 i) (by omega) (by decide) rfl ?_
  refine ws_a (by omega) (by decide) p1 ?_
  obtain ⟨d, hd, ed⟩ := hr.1
  rcases (show d = 0 ∨ d = 1 ∨ d = 2 ∨ d = 3 by omega) with rfl | rfl | rfl | rfl
  · rw [ed, tsw3.1]
    obtain ⟨⟨l, hl, el⟩, k, hk1, hk3, ek⟩ := hr.2.2 ed
    obtain ⟨c, hc, ec⟩ := hr.2.1 (by rw [ed]; decide)
    obtain ⟨p4, p5⟩ := p3 ed
    rw [p2 (by rw [ed]; decide), ec]
    rw [el] at p4 ⊢
    rw [ek] at p5 ⊢
    refine ws_a (by omega) (by decide) p4 (ws_a (by omega) (by decide) p5 ?_)
    refine wp_eq (ks_canHang hT o43 hS (nI c) (nI l) (nI k)) ?_
    rw [ch_n h5 h6 hc hl hk1 hk3]
    have ej : jcan T S (nI 0) (nI c) (nI l) (nI k) = (decide (S 1 c = -1) && decide (¬ frS T S l < nI k)) := by
      unfold jcan
      rw [if_neg (by decide), if_pos (by decide), cl_n (by omega), cl_n (by omega)]
    have en : jnew T S (nI 0) (nI c) (nI l) (nI k) = if (decide (S 1 c = -1) && decide (¬ frS T S l < nI k)) = true then puS S c (nI l) (nI k) else S := by
      unfold jnew
      rw [ej, if_neg (show ¬ nI 0 = 3 by decide), if_pos (show nI 0 = 0 from rfl), cl_n (by omega)]
    rw [ej, en]
    by_cases q : (decide (S 1 c = -1) && decide (¬ frS T S l < nI k)) = true
    · rw [if_neg (bt q), if_pos q]
      refine ws_a (by omega) (by decide) p4 (ws_a (by omega) (by decide) p5 ?_)
      obtain ⟨τ, e, g1, g2⟩ := ks_putUp (l := nI l) (k := nI k) h6 o43 hS hc
      exact wp_eq e (ws_z1 ⟨q.symm, g1, eqr_mono g2 (fun b j z => by unfold RtC; omega)⟩)
    · rw [if_pos (bf q), if_neg q]
      exact ws_z0 ⟨by simpa using q, hS, eqr_rf⟩
  · rw [ed, tsw3.2.1]
    obtain ⟨c, hc, ec⟩ := hr.2.1 (by rw [ed]; decide)
    rw [p2 (by rw [ed]; decide), ec]
    refine wp_eq (ks_hangs hT o43 hS (nI c)) ?_
    rw [ha_n h6 hc]
    have ej : ∀ y z, jcan T S (nI 1) (nI c) y z = decide (¬ S 1 c = -1) := fun y z => by
      unfold jcan
      rw [if_neg (by decide), if_neg (by decide), if_pos (by decide), cl_n (by omega)]
    have en : ∀ y z, jnew T S (nI 1) (nI c) y z = if decide (¬ S 1 c = -1) = true then dnS S c else S := fun y z => by
      unfold jnew
      rw [ej, if_neg (show ¬ nI 1 = 3 by decide), if_neg (show ¬ nI 1 = 0 by decide), if_pos (show nI 1 = 1 from rfl), cl_n (by omega)]
    rw [ej, en]
    by_cases q : decide (¬ S 1 c = -1) = true
    · rw [if_neg (bt q), if_pos q]
      obtain ⟨τ, e, g1, g2⟩ := ks_putDown h6 o43 hS hc
      exact wp_eq e (ws_z1 ⟨q.symm, g1, eqr_mono g2 (fun b j z => by unfold RtC; omega)⟩)
    · rw [if_pos (bf q), if_neg q]
      exact ws_z0 ⟨by simpa using q, hS, eqr_rf⟩
  · rw [ed, tsw3.2.2.1]
    obtain ⟨c, hc, ec⟩ := hr.2.1 (by rw [ed]; decide)
    rw [p2 (by rw [ed]; decide), ec]
    refine wp_eq (ks_lies hT o43 hS (nI c)) ?_
    rw [li_n h6 hc]
    have ej : ∀ y z, jcan T S (nI 2) (nI c) y z = decide (S 1 c = -1) := fun y z => by
      unfold jcan
      rw [if_neg (by decide), if_neg (by decide), if_neg (by decide), cl_n (by omega)]
    have en : ∀ y z, jnew T S (nI 2) (nI c) y z = if decide (S 1 c = -1) = true then soS T S c else S := fun y z => by
      unfold jnew
      rw [ej, if_neg (show ¬ nI 2 = 3 by decide), if_neg (show ¬ nI 2 = 0 by decide), if_neg (show ¬ nI 2 = 1 by decide), cl_n (by omega)]
    rw [ej, en]
    by_cases q : decide (S 1 c = -1) = true
    · rw [if_neg (bt q), if_pos q]
      obtain ⟨τ, e, g1, g2⟩ := ks_soak hT o43 hS hc
      exact wp_eq e (ws_z1 ⟨q.symm, g1, eqr_mono g2 (fun b j z => by unfold RtC; omega)⟩)
    · rw [if_pos (bf q), if_neg q]
      exact ws_z0 ⟨by simpa using q, hS, eqr_rf⟩
  · rw [ed, tsw3.2.2.2]
    refine wp_bd (ks_pass hV hT o43 hS true) ?_
    rintro r τ ⟨-, g1, g2⟩
    refine ws_z1 ⟨?_, ?_, eqr_mono g2 (fun b j z => by unfold RtC; omega)⟩
    · unfold jcan; rw [if_pos (by decide)]
    · unfold jnew; rw [if_pos (by decide)]; exact g1
def RjC (b j : Nat) : Prop := RtC b j ∨ (b = 28 ∧ 5 ≤ j)
theorem RjC_sc (b j : Nat) (h : RjC b j) : b < 249 ∧ scC b j := by unfold RjC RtC at h; unfold scC; omega
theorem RjC_no {b j : Nat} (h : ¬ (b = 14 ∨ (42 ≤ b ∧ b ≤ 47) ∨ (b = 28 ∧ 5 ≤ j))) : ¬ RjC b j := fun q => by unfold RjC RtC at q; omega
theorem c_judge {A : AB} {σ : MM} (hV : VA A) (hA : CA A σ) : wp (FX3_judge 28 43) σ (fun _ τ => τ.1 28 5 = (jst A.1 A.2.2.2.1 A.2.2.2.1.1).2.1 ∧ τ.1 28 6 = (jst A.1 A.2.2.2.1 A.2.2.2.1.1).2.2 ∧ CSk A.1 43 (jst A.1 A.2.2.2.1 A.2.2.2.1.1).1 τ ∧ eqr RjC σ τ) := by
  have v6 := hV.1.1.2.2.1
  have vn := hV.2.2.2.1.1
  have vr : ∀ i, i < A.2.2.2.1.1 → okRow A.1 A.2.2.2.1 i := hV.2.2.2.1.2
  unfold FX3_judge
  refine ws_s (ws_s ?_)
  have hq0 : eqr (fun b j => b = 28 ∧ (j = 5 ∨ j = 6)) σ (up2 (up2 σ.1 28 5 (-1)) 28 6 (-1), σ.2) := eqr_tr (eqr_up (by omega)) (eqr_up (σ := (up2 σ.1 28 5 (-1), σ.2)) (by omega))
  have e5 : ((up2 (up2 σ.1 28 5 (-1)) 28 6 (-1), σ.2) : MM).1 28 5 = -1 := (mm_ne (by omega)).trans up2_at
  have e6 : ((up2 (up2 σ.1 28 5 (-1)) 28 6 (-1), σ.2) : MM).1 28 6 = -1 := mm_at
  show wp _ ((up2 (up2 σ.1 28 5 (-1)) 28 6 (-1), σ.2) : MM) _
  generalize ((up2 (up2 σ.1 28 5 (-1)) 28 6 (-1), σ.2) : MM) = τ at hq0 e5 e6
  have hT0 : CTn A.1 τ := CTn_r hq0 (fun b j _ _ => by omega) hA.1
  refine wp_bd (ks_begin hT0 o43) ?_
  rintro _ υ ⟨hS, hq1⟩
  have hq : eqr RjC σ υ := eqr_tr (eqr_mono hq0 (fun b j z => by unfold RjC; omega)) (eqr_mono hq1 (fun b j z => by unfold RjC RtC; omega))
  refine ws_it (fun i s ω => s = nI i ∧ ω.1 28 5 = (jst A.1 A.2.2.2.1 i).2.1 ∧ ω.1 28 6 = (jst A.1 A.2.2.2.1 i).2.2 ∧ CSk A.1 43 (jst A.1 A.2.2.2.1 i).1 ω ∧ eqr RjC σ ω) A.2.2.2.1.1 (by omega) ⟨rfl, (hq1.1 _ _ (by omega)).trans e5, (hq1.1 _ _ (by omega)).trans e6, hS, hq⟩ ?_
  rintro i s ω hi ⟨rfl, h5, h6, hS, hq⟩
  have hT : CTn A.1 ω := CTn_r hq (fun b j _ _ => RjC_no (by omega)) hA.1
  have hP : CPl A.2.2.2.1 ω := CPl_r hq (fun b j z => RjC_no (by omega)) hA.2.2.2.1
  refine ws_gv hP.1 ?_
  by_cases hin : i < A.2.2.2.1.1
  · rw [if_neg (nle_n hin (by omega)), if_neg (show ¬ (40 : Int32) ≤ nI i from nle_n (b := 40) (by omega) (by decide))]
    obtain ⟨x1, x2⟩ := jst_ex (T := A.1) (P := A.2.2.2.1) i (by omega)
    refine wp_bd (kt_isDone hV.1 hT hP hin vn (vr i hin) hS) ?_
    rintro b τ1 ⟨rfl, g1, g2⟩
    have n5 : ¬ RtC 28 5 := fun z => by unfold RtC at z; omega
    have n6 : ¬ RtC 28 6 := fun z => by unfold RtC at z; omega
    have h5' := (g2.1 28 5 n5).trans h5
    have h6' := (g2.1 28 6 n6).trans h6
    have hq2 : eqr RjC σ τ1 := eqr_tr hq (eqr_mono g2 (fun b j z => Or.inl z))
    refine wp_bd (Q := fun _ τ2 => τ2.1 28 5 = (jst A.1 A.2.2.2.1 (i + 1)).2.1 ∧ eqr (fun b j => b = 28 ∧ j = 5) τ1 τ2) ?_ ?_
    · show wp _ τ1 (fun _ τ2 => τ2.1 28 5 = jw (jcan A.1 (jst A.1 A.2.2.2.1 i).1 (A.2.2.2.1.2 0 i) (A.2.2.2.1.2 1 i) (A.2.2.2.1.2 2 i) (A.2.2.2.1.2 3 i)) (jst A.1 A.2.2.2.1 i).2.1 i ∧ _)
      generalize jcan A.1 (jst A.1 A.2.2.2.1 i).1 (A.2.2.2.1.2 0 i) (A.2.2.2.1.2 1 i) (A.2.2.2.1.2 2 i) (A.2.2.2.1.2 3 i) = b
      generalize (jst A.1 A.2.2.2.1 i).2.1 = w at h5'
      unfold jw
      cases b
      · rw [if_pos (show b2i false = 0 from rfl), if_neg (by decide)]
        refine ws_gv h5' ?_
        by_cases z : w = -1
        · rw [if_pos z, if_pos z]
          exact ws_s (wp_pu ⟨mm_at, eqr_up ⟨rfl, rfl⟩⟩)
        · rw [if_neg z, if_neg z]
          exact wp_pu ⟨h5', eqr_rf⟩
      · rw [if_neg (show ¬ b2i true = 0 by decide), if_pos rfl]
        exact wp_pu ⟨h5', eqr_rf⟩
    · rintro _ τ2 ⟨h5n, hq3⟩
      have h6'' := (hq3.1 28 6 (by omega)).trans h6'
      have hq4 : eqr RjC σ τ2 := eqr_tr hq2 (eqr_mono hq3 (fun b j z => by unfold RjC; omega))
      have hT2 : CTn A.1 τ2 := CTn_r hq4 (fun b j _ _ => RjC_no (by omega)) hA.1
      have hS2 : CSk A.1 43 (jst A.1 A.2.2.2.1 (i + 1)).1 τ2 := CSk_r hq3 (fun j => by omega) (by omega) g1
      refine ws_gv h6'' ?_
      refine wp_bd (Q := fun _ τ3 => τ3.1 28 6 = (jst A.1 A.2.2.2.1 (i + 1)).2.2 ∧ eqr (fun b j => (b = 28 ∧ j = 6) ∨ b = 47) τ2 τ3) ?_ ?_
      · show wp _ τ2 (fun _ τ3 => τ3.1 28 6 = jw (!thB A.1 (jst A.1 A.2.2.2.1 (i + 1)).1) (jst A.1 A.2.2.2.1 i).2.2 i ∧ _)
        generalize (jst A.1 A.2.2.2.1 i).2.2 = w at h6''
        by_cases z : w = -1
        · rw [if_pos z]
          refine wp_bd (ks_thunders hV.1 hT2 o43 hS2) ?_
          rintro b τ3 ⟨k1, k2⟩
          rw [← th_b k2]
          cases b
          · rw [if_pos (show b2i false = 0 from rfl)]
            exact wp_pu ⟨(k1.1 _ _ (by omega)).trans h6'', eqr_mono k1 (fun b j z => Or.inr z)⟩
          · rw [if_neg (show ¬ b2i true = 0 by decide)]
            refine ws_s (wp_pu ⟨mm_at.trans ?_, eqr_tr (eqr_mono k1 (fun b j z => Or.inr z)) (eqr_up (by omega))⟩)
            unfold jw
            rw [if_neg (by decide), if_pos z]
        · rw [if_neg z]
          refine wp_pu ⟨h6''.trans ?_, eqr_rf⟩
          unfold jw
          rw [if_neg z]
          split <;> rfl
      · rintro _ τ3 ⟨h6n, hq5⟩
        rw [lt_eq]
        refine wp_pu (Or.inl ⟨_, rfl, hin, nI_1 i, (hq5.1 _ _ (by omega)).trans h5n, h6n, CSk_r hq5 (fun j => by omega) (by omega) hS2, eqr_tr hq4 (eqr_mono hq5 (fun b j z => by unfold RjC RtC; omega))⟩)
  · have : i = A.2.2.2.1.1 := by omega
    rw [this] at h5 h6 hS ⊢
    rw [if_pos (le_nn (by omega))]
    exact wp_pu (Or.inr ⟨_, rfl, wp_pu ⟨h5, h6, hS, hq⟩⟩)
def driS (T : TW) (S : SK) : Int32 := hmF (lsP T S) (T.1 2)
def juR (A : AB) (x : Int32) : Int32 := if (decide (¬ x < 0) && decide (¬ 2 < x)) = true then (if x = 0 then (jst A.1 A.2.2.2.1 A.2.2.2.1.1).2.1 else if x = 1 then (jst A.1 A.2.2.2.1 A.2.2.2.1.1).2.2 else driS A.1 (jst A.1 A.2.2.2.1 A.2.2.2.1.1).1) else -2
theorem c_judged {A : AB} {σ : MM} (hV : VA A) (hA : CA A σ) (x : Int32) : wp (FX11_judged 0 x) σ (fun r τ => r = juR A x ∧ eqr RjC σ τ) := by
  have v6 := hV.1.1.2.2.1
  unfold FX11_judged juR
  rw [r0_3, r0_6]
  by_cases w : (decide (¬ x < 0) && decide (¬ 2 < x)) = true
  · rw [if_pos w]
    have w2 := w
    simp only [Bool.and_eq_true, decide_eq_true_eq] at w2
    rw [if_neg w2.1, if_pos (Int32.not_lt.mp w2.2)]
    refine wp_bd (c_judge hV hA) ?_
    rintro _ τ ⟨h5, h6, hS, hq⟩
    by_cases x0 : x = 0
    · rw [if_pos x0, if_pos x0]
      exact ws_gv h5 (wp_pu ⟨rfl, hq⟩)
    · rw [if_neg x0, if_neg x0]
      by_cases x1 : x = 1
      · rw [if_pos x1, if_pos x1]
        exact bd_asw (ws_gv h6 (wp_eq (show pu _ τ = some (_, τ) from rfl) (wp_pu ⟨rfl, hq⟩)))
      · rw [if_neg x1, if_neg x1]
        have hT : CTn A.1 τ := CTn_r hq (fun b j _ _ => RjC_no (by omega)) hA.1
        refine bd_asw (wp_eq (ks_hanging hT o43 hS) (bd_asw (wp_eq (ks_wetOnes hT o43 hS) (bd_asw (wp_eq (bc_ev _ τ) ?_)))))
        refine wp_eq (show pu _ τ = some (_, τ) from rfl) (wp_pu ⟨?_, hq⟩)
        unfold hgS wnS
        rw [an_bt _ _ v6, bc_bt _ v6]
        rfl
  · rw [if_neg w]
    by_cases w1 : x < 0
    · rw [if_pos w1]; exact wp_pu ⟨rfl, eqr_rf⟩
    · rw [if_neg w1]
      by_cases w2 : x ≤ 2
      · exact absurd (by simp [w1, Int32.not_lt.mpr w2]) w
      · rw [if_neg w2]; exact wp_pu ⟨rfl, eqr_rf⟩
