/-! ===== wishes: the class's search, its pieces ===== -/
theorem or_1 (a b : Int32) : (a ||| b) &&& 1 = (a &&& 1) ||| (b &&& 1) := by
  apply Int32.toBitVec_inj.1
  simp only [Int32.toBitVec_and, Int32.toBitVec_or]
  ext i hi
  simp [Bool.and_or_distrib_right]
theorem or_bit (x y s : Int32) : (((x ||| y) >>> s) &&& 1 = 1) ↔ ((x >>> s) &&& 1 = 1 ∨ (y >>> s) &&& 1 = 1) := by
  rw [Int32.shiftRight_or, or_1]
  rcases bit01 (x >>> s) with h1 | h1 <;> rcases bit01 (y >>> s) with h2 | h2 <;> rw [h1, h2] <;> decide
def RsC (b : Nat) (_ : Nat) : Prop := (42 ≤ b ∧ b ≤ 47) ∨ b = 132
def RwC (b : Nat) (_ : Nat) : Prop := (42 ≤ b ∧ b ≤ 47) ∨ b = 132 ∨ b = 133
theorem RwC_sc (b j : Nat) (h : RwC b j) : b < 249 ∧ scC b j := by unfold RwC at h; unfold scC; omega
theorem sc_T {T : TW} {σ τ : MM} (h : eqr RsC σ τ) (hT : CTn T σ) : CTn T τ := CTn_r h (fun b j _ _ q => by unfold RsC at q; omega) hT
theorem sc_W {W : Nat → Int32} {σ τ : MM} (h : eqr RsC σ τ) (hW : CWa 131 W σ) : CWa 131 W τ := CWa_r h (fun j q => by unfold RsC at q; omega) hW
/-- the class's memory, at a row -/
def WC (T : TW) (S : SK) (g : Nat → Nat) (c : Nat) (τ : MM) : Prop := (∃ U, CSk T 43 U τ ∧ VSk T U ∧ skA T U (skg S g c)) ∧ ∀ k, k < c → τ.1 132 k = eI (g k)
theorem WC_47 {T : TW} {S : SK} {g : Nat → Nat} {c : Nat} {τ υ : MM} (h : WC T S g c τ) (hq : eqr (fun b _ => b = 47) τ υ) : WC T S g c υ := by
  obtain ⟨⟨U, h1, h2, h3⟩, h4⟩ := h
  exact ⟨⟨U, CSk_r hq (fun j => by omega) (by omega) h1, h2, h3⟩, fun k hk => (hq.1 _ _ (by omega)).trans (h4 k hk)⟩
theorem eI_m1 {v : Nat} : eI v = -1 ↔ ¬ v < 5 := by
  unfold eI
  by_cases q : v < 5
  · rw [if_pos q]
    exact ⟨fun e => absurd e (nm1 v q), fun e => absurd q e⟩
  · rw [if_neg q]
    exact ⟨fun _ => q, fun _ => rfl⟩
theorem nI_neg (i : Nat) : nI i + (-1 : Int32) = nI i - 1 := (Int32.sub_eq_add_neg _ _).symm
/-! the first line to try -/
theorem c_firstLine {T : TW} {S : SK} {W : Nat → Int32} {g : Nat → Nat} {c : Nat} {τ : MM} (hV : VTn T) (hv : VSk T S) (hT : CTn T τ) (hW : WC T S g c τ) (hr : rOk T S g c) (hc : c < T.1 2) : wp (FX9_firstLine 130 (nI c)) τ (fun r υ => r = nI (fL (PW T S W) g c) ∧ υ = τ) := by
  have v5 := hV.1.1
  have v6 := hV.1.2.2.1
  obtain ⟨⟨U, h1, h2, h3⟩, h4⟩ := hW
  have hU : ∀ k, k < T.1 2 → c ≤ k → U 0 k = S 0 k ∧ U 1 k = S 1 k := fun k hk hck => by
    have := h3 k hk
    rw [skg_0, skg_out (fun e => by omega)] at this
    exact ⟨this.1, this.2.1⟩
  unfold FX9_firstLine
  rw [r130_2, r130_1, sk1 o43, sk0 o43, r3_6]
  refine wp_eq (ks_lies hT o43 h1 (nI c)) ?_
  rw [li_n v6 hc, (hU c hc (Nat.le_refl _)).2]
  by_cases hy : S 1 c = -1
  · rw [if_neg (by simp [hy, b2i])]
    refine ws_a (by omega) (by decide) ((h1.2 c hc).1.trans (hU c hc (Nat.le_refl _)).1) ?_
    by_cases hw : S 0 c = 0
    · rw [if_pos hw]
      refine wp_pu ⟨?_, rfl⟩
      unfold fL
      rw [if_neg (fun e => by
        have : decide (¬ S 0 c ≤ 0) = true := e.2
        rw [hw] at this
        exact absurd this (by decide))]
      rfl
    · rw [if_neg hw, lt_eq]
      have hwn : ¬ S 0 c ≤ 0 := by rw [← wet0 hv hc]; exact hw
      have eL : fL (PW T S W) g c = fd (PW T S W) g c c := by
        unfold fL
        rw [if_pos ⟨by show decide (S 1 c = -1) = true; simp [hy], by show decide (¬ S 0 c ≤ 0) = true; simp [hwn]⟩]
      rw [eL]
      refine ws_it (fun k s υ => k ≤ c ∧ s = nI (c - k) - 1 ∧ υ = τ ∧ fd (PW T S W) g c c = fd (PW T S W) g c (c - k)) c (by omega) ⟨by omega, rfl, rfl, rfl⟩ ?_
      rintro k s υ hk ⟨hkc, rfl, rfl, hfd⟩
      by_cases hz : c - k = 0
      · rw [hz, nI_0, if_pos (show (0 : Int32) - 1 < 0 by decide)]
        refine wp_pu (Or.inr ⟨_, rfl, wp_pu ⟨?_, rfl⟩⟩)
        rw [hfd, hz]
        rfl
      · obtain ⟨i, hi⟩ : ∃ i, c - k = i + 1 := ⟨c - k - 1, by omega⟩
        rw [hi, nI_pred, if_neg (nI_pos (by omega))]
        have hin : i < T.1 2 := by omega
        refine ws_a (by omega) (by decide) ((hT.2.2.2.1 i hin).1.trans (kdN_ok hV hin).2) ?_
        refine ws_a (by omega) (by decide) ((hT.2.2.2.1 c hc).1.trans (kdN_ok hV hc).2) ?_
        have nxt : fd (PW T S W) g c (i + 1) = fd (PW T S W) g c i → wp (lt (nI i + (-1 : Int32)) (fun y9 => pu (Sum.inl y9)) : PP ((Int32) ⊕ ((Unit) ⊕ ((Int32) ⊕ (Unit))))) υ (fun r υ2 => (∃ a', r = .inl a' ∧ k < c ∧ (k + 1 ≤ c ∧ a' = nI (c - (k + 1)) - 1 ∧ υ2 = υ ∧ fd (PW T S W) g c c = fd (PW T S W) g c (c - (k + 1)))) ∨ (∃ b, r = .inr b ∧ wp ((Sum.elim (fun (v13 : Unit) => pu (0 : Int32)) (Sum.elim (fun (v14 : Int32) => bd (aI 132 6 v14) (fun x15 => pu x15)) (fun (v16 : Unit) => pu (5 : Int32)))) b) υ2 (fun r υ3 => r = nI (fd (PW T S W) g c c) ∧ υ3 = υ))) := fun e => by
          rw [lt_eq, nI_neg]
          refine wp_pu (Or.inl ⟨_, rfl, by omega, by omega, by rw [show c - (k + 1) = i by omega], rfl, ?_⟩)
          rw [hfd, hi, e, show c - (k + 1) = i by omega]
        have efd : fd (PW T S W) g c (i + 1) = if kdN T i = kdN T c ∧ decide (¬ S 0 i ≤ 0) = true then (if g i < T.1 0 then g i else if decide (S 1 i = -1) = true then 5 else fd (PW T S W) g c i) else fd (PW T S W) g c i := rfl
        simp only [decide_eq_true_eq] at efd
        have k1 := (kdN_ok hV hin).1
        have k2 := (kdN_ok hV hc).1
        by_cases q1 : kdN T i = kdN T c
        · rw [if_pos (by rw [q1])]
          have hU0 : U 0 i = S 0 i := by have := (h3 i hin).1; rwa [skg_0] at this
          refine ws_a (by omega) (by decide) ((h1.2 i hin).1.trans hU0) ?_
          by_cases q2 : S 0 i ≤ 0
          · rw [if_pos q2]
            exact nxt (by rw [efd, if_neg (fun e => e.2 q2)])
          · rw [if_neg q2]
            rw [if_pos ⟨q1, q2⟩] at efd
            refine ws_a (by omega) (by decide) (h4 i (by omega)) ?_
            by_cases q3 : g i < 5
            · rw [if_neg (fun e => eI_m1.mp e q3)]
              have gl : g i < T.1 0 := by
                rcases hr i (by omega) with z | z
                · exact z.1
                · omega
              rw [if_pos gl] at efd
              refine wp_pu (Or.inr ⟨_, rfl, ?_⟩)
              show wp (bd (aI 132 6 (nI i)) (fun x15 => pu x15)) υ _
              refine ws_a (by omega) (by decide) (h4 i (by omega)) (wp_pu ⟨?_, rfl⟩)
              rw [hfd, hi, efd]
              unfold eI
              rw [if_pos q3]
            · rw [if_pos (eI_m1.mpr q3)]
              have gl : ¬ g i < T.1 0 := by omega
              rw [if_neg gl] at efd
              refine wp_eq (ks_lies hT o43 h1 (nI i)) ?_
              have hU1 : U 1 i = S 1 i := by have := (h3 i hin).2.1; rwa [skg_out (fun e => q3 e.2)] at this
              rw [li_n v6 hin, hU1]
              by_cases q4 : S 1 i = -1
              · rw [if_neg (by simp [q4, b2i])]
                rw [if_pos q4] at efd
                refine wp_pu (Or.inr ⟨_, rfl, wp_pu ⟨?_, rfl⟩⟩)
                rw [hfd, hi, efd]
                rfl
              · rw [if_pos (by simp [q4, b2i])]
                exact nxt (by rw [efd, if_neg q4])
        · rw [if_neg (fun e => q1 ((nI_eq (by omega) (by omega)).mp e))]
          exact nxt (by rw [efd, if_neg (fun e => q1 e.1)])
  · rw [if_pos (by simp [hy, b2i])]
    refine wp_pu ⟨?_, rfl⟩
    unfold fL
    rw [if_neg (fun e => hy (by have : decide (S 1 c = -1) = true := e.1; simpa using this))]
    rfl
/-! cloths that are left -/
def lfF (P : RQ) (j c k : Nat) : Nat := if k < c then 0 else if qy P k = true ∧ qw P k = true ∧ qk P k = j then 1 else 0
def lfN (P : RQ) (j c n : Nat) : Nat := zsm (lfF P j c) n
theorem lf_0 {P : RQ} {j c : Nat} : lfN P j c c = 0 := by
  have : ∀ n, n ≤ c → lfN P j c n = 0 := by
    intro n
    induction n with
    | zero => intro _; rfl
    | succ n ih =>
      intro h
      show lfN P j c n + lfF P j c n = 0
      rw [ih (by omega)]
      unfold lfF
      rw [if_pos (by omega)]
  exact this c (Nat.le_refl _)
theorem c_leftOf {T : TW} {S : SK} {W : Nat → Int32} {g : Nat → Nat} {c j : Nat} {τ : MM} (hV : VTn T) (hT : CTn T τ) (hW : WC T S g c τ) (hc : c ≤ T.1 2) (hj : j < 4) : FX9_leftOf 130 (nI j) (nI c) τ = some (nI (lfN (PW T S W) j c (T.1 2)), τ) := by
  have v6 := hV.1.2.2.1
  obtain ⟨⟨U, h1, h2, h3⟩, h4⟩ := hW
  have hU : ∀ k, k < T.1 2 → c ≤ k → U 0 k = S 0 k ∧ U 1 k = S 1 k := fun k hk hck => by
    have := h3 k hk
    rw [skg_0, skg_out (fun e => by omega)] at this
    exact ⟨this.1, this.2.1⟩
  unfold FX9_leftOf
  rw [r130_2, sk1 o43, sk0 o43, r3_6]
  have h0 : (((0 : Int32), nI c) : Int32 × Int32) = (nI (lfN (PW T S W) j c (c + 0)), nI (c + 0)) := by
    rw [Nat.add_zero, lf_0]; rfl
  refine (bd_it (r := nI (lfN (PW T S W) j c (c + (T.1 2 - c)))) (fun k => (nI (lfN (PW T S W) j c (c + k)), nI (c + k))) (T.1 2 - c) h0 ?_ ?_ (by omega)).trans (by rw [show c + (T.1 2 - c) = T.1 2 by omega]; rfl)
  · intro k hk
    have hin : c + k < T.1 2 := by omega
    have g3 : τ.1 3 11 = nI (T.1 2) := hT.1.2.2.1
    have el : FX4_lies 43 (nI (c + k)) τ = some (decide (S 1 (c + k) = -1), τ) := by
      rw [ks_lies hT o43 h1, li_n v6 hin, (hU _ hin (by omega)).2]
    have e1 := ev_aI (a := 44) (σ := τ) (show c + k < 6 by omega) (by decide)
    rw [show τ.1 44 (c + k) = S 0 (c + k) from (h1.2 _ hin).1.trans (hU _ hin (by omega)).1] at e1
    have e2 := ev_aI (a := 10) (σ := τ) (show c + k < 6 by omega) (by decide)
    rw [show τ.1 10 (c + k) = nI (kdN T (c + k)) from (hT.2.2.2.1 _ hin).1.trans (kdN_ok hV hin).2] at e2
    have kk := (kdN_ok hV hin).1
    have es : lfN (PW T S W) j c (c + (k + 1)) = lfN (PW T S W) j c (c + k) + (if c + k < c then 0 else if decide (S 1 (c + k) = -1) = true ∧ decide (¬ S 0 (c + k) ≤ 0) = true ∧ kdN T (c + k) = j then 1 else 0) := rfl
    rw [es, if_neg (by omega)]
    have i1 : nI (c + k) + 1 = nI (c + (k + 1)) := nI_1 (c + k)
    by_cases q1 : S 1 (c + k) = -1
    · by_cases q2 : S 0 (c + k) ≤ 0
      · simp [bd, gI, g3, nle_n hin (by omega), el, e1, q1, q2, b2i, lt, pu, i1]
      · by_cases q3 : kdN T (c + k) = j
        · simp [bd, gI, g3, nle_n hin (by omega), el, e1, e2, q1, q2, q3, b2i, lt, pu, i1, nI_1]
        · have q4 : ¬ nI (kdN T (c + k)) = nI j := fun e => q3 ((nI_eq (by omega) (by omega)).mp e)
          simp [bd, gI, g3, nle_n hin (by omega), el, e1, e2, q1, q2, q3, q4, b2i, lt, pu, i1]
    · simp [bd, gI, g3, nle_n hin (by omega), el, q1, b2i, lt, pu, i1]
  · rw [show c + (T.1 2 - c) = T.1 2 by omega]
    have g3 : τ.1 3 11 = nI (T.1 2) := hT.1.2.2.1
    simp [bd, gI, g3, le_nn (show T.1 2 < 2 ^ 31 by omega), pu]
/-! who wins -/
theorem c_wins {τ : MM} {N : Nat → Nat} {w q : Nat} (hN : ∀ j, j < 4 → τ.1 47 j = nI (N j)) (hb : ∀ j, j < 4 → N j < 20) (hw : w < 4) (hq : q < 100) : wp (FX9_wins 130 (nI w) (nI q)) τ (fun r υ => υ = τ ∧ (r = true ↔ Wins (ud N w q) w)) := by
  unfold FX9_wins
  rw [r130_2, sk4 o43]
  have eud : ∀ j, j ≠ w → ud N w q j = N j := fun j h => by simp [ud, h]
  have euw : ud N w q w = q := by simp [ud]
  refine ws_it (fun k s υ => k ≤ 4 ∧ s = ((if k ≤ (w + 2) % 4 then 1 else 0), nI k) ∧ υ = τ ∧ ∀ t, t < k → rk t ≠ w → N (rk t) < q ∨ (N (rk t) = q ∧ (w + 2) % 4 < t)) 4 (by decide) ⟨by omega, by simp; rfl, rfl, fun t ht => by omega⟩ ?_
  rintro k s υ hk ⟨-, rfl, rfl, hJ⟩
  by_cases hk4 : k < 4
  · rw [if_neg (show ¬ (4 : Int32) ≤ nI k from nle_n hk4 (by decide))]
    have hr := rk_lt k hk4
    have hNk := hb _ hr
    refine wp_eq (ev_aR hk4) ?_
    have bad : rk k ≠ w → (q < N (rk k) ∨ (q = N (rk k) ∧ k ≤ (w + 2) % 4)) → wp (zb (0 : Int32)) υ (fun r υ2 => υ2 = υ ∧ (r = true ↔ Wins (ud N w q) w)) := fun h1 h2 => ws_z0 ⟨rfl, fun e => absurd e (by decide), fun e => by
      have := e.2 (rk k) hr h1
      rw [eud _ h1, euw, rk_inv k hk4] at this
      omega⟩
    by_cases hrw : rk k = w
    · rw [if_pos (by rw [hrw]), lt_eq]
      refine wp_pu (Or.inl ⟨_, rfl, hk4, by omega, ?_, rfl, fun t ht h1 => ?_⟩)
      · have : (w + 2) % 4 = k := by rw [← hrw]; exact rk_inv k hk4
        rw [this, nI_1, if_neg (show ¬ k + 1 ≤ k by omega)]
      · by_cases z : t = k
        · exact absurd (by rw [z]; exact hrw) h1
        · exact hJ t (by omega) h1
    · rw [if_neg (fun e => hrw ((nI_eq (by omega) (by omega)).mp e))]
      refine ws_a hr (by decide) (hN _ hr) ?_
      by_cases z1 : q < N (rk k)
      · rw [if_pos (nI_lt z1 (by omega))]
        exact wp_pu (Or.inr ⟨_, rfl, bad hrw (Or.inl z1)⟩)
      · rw [if_neg (nI_nlt (by omega) (by omega))]
        have hkw : k ≠ (w + 2) % 4 := fun e => hrw (by rw [e]; exact rk_sur w hw)
        by_cases z2 : k ≤ (w + 2) % 4
        · rw [if_pos z2, if_neg (show ¬ (1 : Int32) = 0 by decide)]
          refine ws_a hr (by decide) (hN _ hr) ?_
          by_cases z3 : N (rk k) = q
          · rw [if_pos (by rw [z3])]
            exact wp_pu (Or.inr ⟨_, rfl, bad hrw (Or.inr ⟨z3.symm, z2⟩)⟩)
          · rw [if_neg (fun e => z3 ((nI_eq (by omega) (by omega)).mp e)), lt_eq]
            refine wp_pu (Or.inl ⟨_, rfl, hk4, by omega, by rw [if_pos (by omega), nI_1], rfl, fun t ht h1 => ?_⟩)
            by_cases z : t = k
            · rw [z]; exact Or.inl (by omega)
            · exact hJ t (by omega) h1
        · rw [if_neg z2, if_pos rfl, lt_eq]
          refine wp_pu (Or.inl ⟨_, rfl, hk4, by omega, by rw [if_neg (by omega), nI_1], rfl, fun t ht h1 => ?_⟩)
          by_cases z : t = k
          · rw [z]
            by_cases z4 : N (rk k) = q
            · exact Or.inr ⟨z4, by omega⟩
            · exact Or.inl (by omega)
          · exact hJ t (by omega) h1
  · have : k = 4 := by omega
    subst this
    rw [if_pos (show (4 : Int32) ≤ nI 4 by decide)]
    refine wp_pu (Or.inr ⟨_, rfl, ?_⟩)
    show wp (bd (if nI q ≤ 0 then pu (0 : Int32) else pu (1 : Int32) : PP (Int32)) (fun (v9 : Int32) => zb v9)) υ _
    by_cases z : q = 0
    · rw [if_pos (by rw [z]; decide)]
      refine wp_eq (show pu _ υ = some (_, υ) from rfl) (ws_z0 ⟨rfl, fun e => absurd e (by decide), fun e => ?_⟩)
      have := e.1
      rw [euw] at this
      omega
    · rw [if_neg (nI_nle (by omega) (by omega))]
      refine wp_eq (show pu _ υ = some (_, υ) from rfl) (ws_z1 ⟨rfl, fun _ => ⟨by rw [euw]; omega, fun j hj hn => ?_⟩, fun _ => rfl⟩)
      rw [eud j hn, euw]
      have := hJ ((j + 2) % 4) (Nat.mod_lt _ (by decide)) (by rw [rk_sur j hj]; exact hn)
      rw [rk_sur j hj] at this
      exact this
