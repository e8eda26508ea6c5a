/-! ===== tests and parts of a law ===== -/
theorem px_test {Q : TA} {m d : Nat} {selfC : Nat → Nat → Int32 → PP Unit} {selfM : Nat → Int32 → PP Unit} (vQ : VTa Q) (hm : m ≤ 1000) (hend : yT Q (tp Q m) = 0) (h0 : PX Q m (FX0_readSum selfC 25 1 (nI d)) (FX12_sums selfM 249 (nI d)) (4 * d + 2)) : PX Q m (FX0_readTest selfC 25 1 (nI d)) (FX12_test selfM 249 (nI d)) (4 * d + 1) := by
  intro t E L z h1 h2 h3
  obtain ⟨t1, E1, L1, z1, ⟨p1, p2, p3, p4, p5, p6⟩, pC, pM⟩ := h0 t E L z h1 h2 h3
  unfold FX0_readTest FX12_test
  by_cases hop : E1 = 0 ∧ (gB Q 60 t1 = true ∨ gB Q 61 t1 = true)
  · obtain ⟨e1, hop⟩ := hop
    subst e1
    obtain ⟨rb, r1, r2, r3, r4, r5⟩ := p6 rfl
    have hy : ¬ yT Q (tp Q t1) = 0 := by rcases hop with h | h <;> exact gB_y h
    have htm : t1 < m := by
      apply Classical.byContradiction
      intro n
      apply hy
      rw [show t1 = m by omega]
      exact hend
    obtain ⟨t2, E2, L2, z2, ⟨q1, q2, q3, q4, q5, q6⟩, qC, qM⟩ := h0 (t1 + 1) 0 L1 z1 (by decide) (by omega) (by omega)
    have hx : ∃ (s : Int32) (o : Nat), ((gB Q 60 t1 = true ∧ s = -8 ∧ o = 7) ∨ (gB Q 60 t1 = false ∧ gB Q 61 t1 = true ∧ s = -9 ∧ o = 8)) := by
      by_cases g : gB Q 60 t1 = true
      · exact ⟨-8, 7, Or.inl ⟨g, rfl, rfl⟩⟩
      · exact ⟨-9, 8, Or.inr ⟨by simpa using g, hop.resolve_left g, rfl, rfl⟩⟩
    obtain ⟨s, o, hso⟩ := hx
    have hs : s < -4 ∧ ¬ s = -5 ∧ 1 ≤ o ∧ o ≤ 10 ∧ ¬ o = 1 ∧ ¬ o = 2 ∧ s = cst (nI o) (nI 0) := by
      rcases hso with ⟨-, rfl, rfl⟩ | ⟨-, -, rfl, rfl⟩
      · exact ⟨by decide, by decide, by decide, by decide, by decide, by decide, rfl⟩
      · exact ⟨by decide, by decide, by decide, by decide, by decide, by decide, rfl⟩
    obtain ⟨hs1, hs2, ho1, ho2, ho3, ho4, hsc⟩ := hs
    refine ⟨t2, E2, up1 L2 z2 s, z2 + 1, ⟨q1, by omega, q3, by omega, by omega, fun e => ?_⟩, fun σ hC => ?_, fun σ hM => ?_⟩
    · obtain ⟨-, v1, v2, v3, v4, v5⟩ := q6 e
      exact ⟨by omega, r1, by omega, by omega, fun k hk => by rw [up1_ne (by omega), v4 k (by omega), r4 k hk], WFs_bin (by omega) q4 hs1 hs2 (by omega) (WFs_c (by omega) v4 (WFs_m (by omega) r5)) v5⟩
    · refine wp_bd (pC σ hC) ?_
      rintro _ τ1 ⟨s1, f1⟩
      have hk := SC_k s1.1
      refine ws_gv hk ?_
      rw [jn_eq]
      have fin : ∀ P, wp (bd (FX5_advance 1) (fun (_ : Unit) => bd (FX0_readSum selfC 25 1 (nI d)) (fun (_ : Unit) => bd (FX0_addStep 25 s) (fun (_ : Unit) => pu ())))) τ1 P → wp (bd (gI 1 2) (fun x6 => bd (if x6 = (60 : Int32) then pu (-8 : Int32) else pu (-9 : Int32) : PP (Int32)) (fun (v7 : Int32) => bd (FX5_advance 1) (fun (_ : Unit) => bd (FX0_readSum selfC 25 1 (nI d)) (fun (_ : Unit) => bd (FX0_addStep 25 v7) (fun (_ : Unit) => pu ())))))) τ1 P := by
        intro P hP
        refine ws_gv hk ?_
        rcases hso with ⟨g, rfl, rfl⟩ | ⟨g1, g, rfl, rfl⟩
        · rw [if_pos (show (if (0 : Nat) = 0 then kdT Q (tp Q t1) else 0) = 60 by rw [k_eq (by decide) (by decide) (by decide) (by decide), g]; rfl)]
          exact wp_eq (show pu (-8 : Int32) τ1 = some (_, τ1) from rfl) hP
        · rw [if_neg (show ¬ (if (0 : Nat) = 0 then kdT Q (tp Q t1) else 0) = 60 by rw [k_eq (by decide) (by decide) (by decide) (by decide), g1]; decide)]
          exact wp_eq (show pu (-9 : Int32) τ1 = some (_, τ1) from rfl) hP
      have run2 : wp (bd (FX5_advance 1) (fun (_ : Unit) => bd (FX0_readSum selfC 25 1 (nI d)) (fun (_ : Unit) => bd (FX0_addStep 25 s) (fun (_ : Unit) => pu ())))) τ1 (fun _ τ => EC Q t2 E2 (up1 L2 z2 s) (z2 + 1) τ ∧ FEc σ τ) := by
        refine wp_bd (c_adv vQ s1.1) ?_
        rintro _ τ2 ⟨s2, f2⟩
        refine wp_bd (qC τ2 (EC_s s1 s2 f2 (fun e => e))) ?_
        rintro _ τ3 ⟨s3, f3⟩
        refine wp_bd (c_addStep (s := s) (fun e => by omega) s3) ?_
        rintro _ τ4 ⟨s4, f4⟩
        exact wp_pu ⟨s4, FEc_tr f1 (FEc_tr (FEc_t f2) (FEc_tr f3 f4))⟩
      refine wp_bd (P := fun _ τ => EC Q t2 E2 (up1 L2 z2 s) (z2 + 1) τ ∧ FEc σ τ) ?_ (fun _ τ q => wp_pu q)
      rcases hso with ⟨g, rfl, rfl⟩ | ⟨g1, g, rfl, rfl⟩
      · rw [if_pos (show (if (0 : Nat) = 0 then kdT Q (tp Q t1) else 0) = 60 by rw [k_eq (by decide) (by decide) (by decide) (by decide), g]; rfl)]
        exact fin _ run2
      · rw [if_neg (show ¬ (if (0 : Nat) = 0 then kdT Q (tp Q t1) else 0) = 60 by rw [k_eq (by decide) (by decide) (by decide) (by decide), g1]; decide)]
        refine ws_gv hk ?_
        rw [if_pos (show (if (0 : Nat) = 0 then kdT Q (tp Q t1) else 0) = 61 by rw [k_eq (by decide) (by decide) (by decide) (by decide), g]; rfl)]
        exact fin _ run2
    · refine wp_bd (pM σ hM) ?_
      rintro _ τ1 ⟨s1, f1⟩
      refine wp_eq (m_isSign vQ (by decide) s1.1 60) ?_
      rw [lt_eq]
      refine wp_bd (m_hasSign vQ (by decide) s1.1 60) ?_
      rintro r τ2 ⟨rfl, s2, f2⟩
      rw [jn_eq]
      refine wp_bd (P := fun _ τ => EM Q m t2 E2 (up1 L2 z2 s) (z2 + 1) τ ∧ eqr Rem σ τ) ?_ (fun _ τ q => wp_pu q)
      have run2 : ∀ υ (y3 : Int32), (y3 = 0 ↔ o = 8) → SM Q m (t1 + 1) 0 υ → eqr Rat τ1 υ → wp (bd (FX12_sums selfM 249 (nI d)) (fun (_ : Unit) => bd (if y3 = 0 then pu (8 : Int32) else pu (7 : Int32) : PP (Int32)) (fun (v9 : Int32) => bd (FX12_emit 249 v9 (0 : Int32)) (fun (_ : Unit) => pu ())))) υ (fun _ τ => EM Q m t2 E2 (up1 L2 z2 s) (z2 + 1) τ ∧ eqr Rem σ τ) := by
        intro υ y3 hy3 sv fv
        refine wp_bd (qM υ (EM_s s1 sv fv (fun e => e))) ?_
        rintro _ τ3 ⟨s3, f3⟩
        have em := m_emit (o := o) (a := 0) (by omega) ho1 ho2 ⟨fun e => absurd e ho3, fun e => absurd e ho4⟩ s3
        rw [← hsc] at em
        rcases hso with ⟨g, rfl, rfl⟩ | ⟨g1, g, rfl, rfl⟩
        · rw [if_neg (show ¬ y3 = 0 from fun e => by have := hy3.mp e; omega)]
          refine wp_eq (show pu (7 : Int32) τ3 = some (_, τ3) from rfl) (wp_bd em ?_)
          rintro _ τ4 ⟨s4, f4⟩
          exact wp_pu ⟨s4, eqr_tr f1 (eqr_tr (Rat_em fv) (eqr_tr f3 f4))⟩
        · rw [if_pos (hy3.mpr rfl)]
          refine wp_eq (show pu (8 : Int32) τ3 = some (_, τ3) from rfl) (wp_bd em ?_)
          rintro _ τ4 ⟨s4, f4⟩
          exact wp_pu ⟨s4, eqr_tr f1 (eqr_tr (Rat_em fv) (eqr_tr f3 f4))⟩
      rcases hso with ⟨g, rfl, rfl⟩ | ⟨g1, g, rfl, rfl⟩
      · have hf : (decide ((0 : Nat) = 0) && gB Q 60 t1) = true := by rw [g]; rfl
        rw [hf] at s2 ⊢
        rw [if_neg (show ¬ b2i true = 0 by decide)]
        exact run2 τ2 _ ⟨fun e => absurd e (by decide), fun e => by omega⟩ s2 f2
      · have hf : (decide ((0 : Nat) = 0) && gB Q 60 t1) = false := by rw [g1]; rfl
        rw [hf] at s2 ⊢
        rw [if_pos (show b2i false = 0 from rfl)]
        refine wp_bd (m_hasSign vQ (by decide) s2 61) ?_
        rintro r τ3 ⟨rfl, s3, f3⟩
        have hf2 : (decide ((0 : Nat) = 0) && gB Q 61 t1) = true := by rw [g]; rfl
        have hf3 : (decide ((0 : Nat) = 0) && gB Q 61 (if false = true then t1 + 1 else t1)) = true := hf2
        rw [hf3] at s3 ⊢
        rw [if_neg (show ¬ b2i true = 0 by decide)]
        exact run2 τ3 _ ⟨fun _ => rfl, fun _ => rfl⟩ s3 (eqr_tr f2 f3)
  · have n1 : (decide (E1 = 0) && gB Q 60 t1) = false := by
      by_cases e : E1 = 0
      · have : gB Q 60 t1 = false := by
          cases g : gB Q 60 t1 with
          | false => rfl
          | true => exact absurd ⟨e, Or.inl g⟩ hop
        simp [this]
      · simp [e]
    have n2 : (decide (E1 = 0) && gB Q 61 t1) = false := by
      by_cases e : E1 = 0
      · have : gB Q 61 t1 = false := by
          cases g : gB Q 61 t1 with
          | false => rfl
          | true => exact absurd ⟨e, Or.inr g⟩ hop
        simp [this]
      · simp [e]
    refine ⟨t1, E1, L1, z1, ⟨p1, p2, p3, p4, p5, fun e => ?_⟩, fun σ hC => ?_, fun σ hM => ?_⟩
    · obtain ⟨rb, r1, r2, r3, r4, r5⟩ := p6 e
      exact ⟨by omega, r1, r2, r3, r4, WFs_m (by omega) r5⟩
    · refine wp_bd (pC σ hC) ?_
      rintro _ τ1 ⟨s1, f1⟩
      have hk := SC_k s1.1
      refine ws_gv hk ?_
      rw [jn_eq, if_neg (by rw [k_eq (by decide) (by decide) (by decide) (by decide), n1]; decide)]
      refine bd_asw (ws_gv hk ?_)
      rw [if_neg (by rw [k_eq (by decide) (by decide) (by decide) (by decide), n2]; decide)]
      exact wp_eq (show pu () τ1 = some ((), τ1) from rfl) (wp_pu ⟨s1, f1⟩)
    · refine wp_bd (pM σ hM) ?_
      rintro _ τ1 ⟨s1, f1⟩
      refine wp_eq (m_isSign vQ p1 s1.1 60) ?_
      rw [lt_eq]
      refine wp_bd (m_hasSign vQ p1 s1.1 60) ?_
      rintro r τ2 ⟨rfl, s2, f2⟩
      rw [n1] at s2 ⊢
      rw [jn_eq, if_pos (show b2i false = 0 from rfl)]
      refine bd_asw (wp_bd (m_hasSign vQ p1 s2 61) ?_)
      rintro r τ3 ⟨rfl, s3, f3⟩
      have n3 : (decide (E1 = 0) && gB Q 61 (if false = true then t1 + 1 else t1)) = false := n2
      rw [n3] at s3 ⊢
      rw [if_pos (show b2i false = 0 from rfl)]
      exact wp_eq (show pu () τ3 = some ((), τ3) from rfl) (wp_pu ⟨EM_s s1 s3 (eqr_tr f2 f3) (fun e => e), eqr_tr f1 (Rat_em (eqr_tr f2 f3))⟩)
