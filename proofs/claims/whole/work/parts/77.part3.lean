/-! ===== parts of a law: alike ===== -/
theorem wva_f : ∀ j, j < 4 → wva.getD (19 + j) 0 = cst (nI 2) (nI j) ∧ ¬ cst (nI 2) (nI j) < -4 := by decide +kernel
theorem px_part {Q : TA} {m : Nat} (vQ : VTa Q) (hm : m ≤ 1000) (hend : yT Q (tp Q m) = 0) : ∀ k d, d ≤ 5 → 6 ≤ k + d → PX Q m (FX0_readPart k 25 1 (nI d)) (FX12_takePart k 249 (nI d)) (4 * d + 4) := by
  intro k
  induction k with
  | zero => intro d h1 h2; omega
  | succ k ih =>
    intro d hd hk t E L z h1 h2 h3
    show ∃ (t' E' : Nat) (L' : Nat → Int32) (z' : Nat), _ ∧ (∀ σ, EC Q t E L z σ → wp (GX0_readPart (FX0_readPart k) 25 1 (nI d)) σ _) ∧ ∀ σ, EM Q m t E L z σ → wp (GX12_takePart (FX12_takePart k) 249 (nI d)) σ _
    by_cases hp : E = 0 → ¬ ptB Q t
    · have hfE : fE Q 1 t E < 20000 ∧ ¬ fE Q 1 t E = 0 := by
        unfold fE
        by_cases e0 : E = 0
        · rw [if_pos e0]; exact ⟨fc_lt vQ (by decide), fc_ne (by decide)⟩
        · rw [if_neg e0]; exact ⟨h1, e0⟩
      refine ⟨t, fE Q 1 t E, L, z, ⟨hfE.1, Nat.le_refl _, h2, Nat.le_refl _, by omega, fun e => absurd e hfE.2⟩, fun σ hC => ?_, fun σ hM => ?_⟩
      · refine wp_mono (gp_n h1 hC.1 hp) (fun _ τ q => ⟨EC_s hC q.1 q.2 (fun e => absurd e hfE.2), FEc_t q.2⟩)
      · refine wp_mono (gm_n vQ h1 hM.1 hp) (fun _ τ q => ⟨EM_s hM q.1 q.2 (fun e => absurd e hfE.2), Rat_em q.2⟩)
    · have hp2 : E = 0 ∧ ptB Q t := by
        refine ⟨Classical.byContradiction (fun n => hp (fun e => absurd e n)), Classical.byContradiction (fun n => hp (fun _ => n))⟩
      obtain ⟨e0, hp2⟩ := hp2
      subst e0
      clear hp
      have hy : ¬ yT Q (tp Q t) = 0 := by
        rcases hp2 with ⟨j, hj, h⟩ | h | h | h
        · exact wB_y h
        · exact wB_y h
        · omega
        · exact gB_y h
      have htm : t < m := by
        apply Classical.byContradiction
        intro n
        apply hy
        rw [show t = m by omega]
        exact hend
      have hf5 := fc_lt (t := t) vQ (show 5 < 10 by decide)
      have hn5 := fc_ne (Q := Q) (k := 5) (t := t) (by decide)
      by_cases d5 : d = 5
      · refine ⟨t, fc Q 5 t, L, z, ⟨hf5, Nat.le_refl _, h2, Nat.le_refl _, by omega, fun e => absurd e hn5⟩, fun σ hC => ?_, fun σ hM => ?_⟩
        · refine gp_j hC.1 hp2 ?_
          unfold gpJ
          rw [if_neg (by rw [d5]; decide)]
          refine wp_bd (c_fail (k := 5) (by decide) h1 hC.1) (fun _ τ q => wp_pu ⟨EC_s hC q.1 q.2 (fun e => absurd e hn5), FEc_t q.2⟩)
        · exact gm_j vQ hd hM.1 hp2 (fun _ τ q1 q2 => ⟨EM_s hM q1 q2 (fun e => absurd e hn5), Rat_em q2⟩) (fun n => absurd d5 n)
      · have hd4 : d ≤ 4 := by omega
        have lt5 : nI d < (5 : Int32) := (nI_ltI (b := 5) (by omega) (by decide)).mpr (by omega)
        have leaf : ∀ (s : Int32) (o a : Nat), ¬ s < -4 → s = cst (nI o) (nI a) → 1 ≤ o → o ≤ 10 → ((o = 1 → a < 10000) ∧ (o = 2 → a < 4)) →
            (∀ σ, EC Q t 0 L z σ → ∀ P, wp (bd (FX0_addStep 25 s) (fun (_ : Unit) => bd (FX5_advance 1) (fun (_ : Unit) => pu ()))) σ P → wp (GX0_readPart (FX0_readPart k) 25 1 (nI d)) σ P) →
            (∀ σ, EM Q m t 0 L z σ → ∀ P, (∀ υ, SM Q m t 0 υ → eqr Rat σ υ → wp (bd (FX12_emit 249 (nI o) (nI a)) (fun (_ : Unit) => bd (gI 249 7) (fun x21 => bd (sI 249 7 (x21 + (1 : Int32))) (fun (_ : Unit) => pu ())))) υ P) → wp (GX12_takePart (FX12_takePart k) 249 (nI d)) σ P) →
            ∃ (t' E' : Nat) (L' : Nat → Int32) (z' : Nat), (E' < 20000 ∧ t ≤ t' ∧ t' ≤ m ∧ z ≤ z' ∧ z' + t ≤ t' + z ∧ (E' = 0 → 4 * d + 4 ≤ 23 ∧ 0 = 0 ∧ t < t' ∧ z < z' ∧ (∀ k, k < z → L' k = L k) ∧ WFs L' z z' (4 * d + 4))) ∧ (∀ σ, EC Q t 0 L z σ → wp (GX0_readPart (FX0_readPart k) 25 1 (nI d)) σ (fun _ τ => EC Q t' E' L' z' τ ∧ FEc σ τ)) ∧ ∀ σ, EM Q m t 0 L z σ → wp (GX12_takePart (FX12_takePart k) 249 (nI d)) σ (fun _ τ => EM Q m t' E' L' z' τ ∧ eqr Rem σ τ) := by
          intro s o a hs hsc ho1 ho2 ha cC cM
          refine ⟨t + 1, 0, up1 L z s, z + 1, ⟨by decide, by omega, by omega, by omega, by omega, fun _ => ⟨by omega, rfl, by omega, by omega, fun j hj => up1_ne (by omega), WFs_leaf hs (by omega)⟩⟩, fun σ hC => ?_, fun σ hM => ?_⟩
          · refine cC σ hC _ (wp_bd (c_addStep (s := s) (fun _ => by omega) hC) ?_)
            rintro _ τ1 ⟨s1, f1⟩
            refine wp_bd (c_adv vQ s1.1) ?_
            rintro _ τ2 ⟨s2, f2⟩
            exact wp_pu ⟨EC_s s1 s2 f2 (fun e => e), FEc_tr f1 (FEc_t f2)⟩
          · refine cM σ hM _ (fun υ sv fv => wp_bd (m_emit (o := o) (a := a) (by omega) ho1 ho2 ha (EM_s hM sv fv (fun e => e))) ?_)
            rintro _ τ1 ⟨s1, f1⟩
            rw [← hsc] at s1
            refine ws_gv s1.1.2.2.2.1 (ws_s (wp_pu ?_))
            obtain ⟨s2, f2⟩ := SM_1 s1.1 htm
            exact ⟨EM_s s1 s2 f2 (fun e => e), eqr_tr (Rat_em fv) (eqr_tr f1 (Rat_em f2))⟩
        have hcase := hp2
        rcases hcase with ⟨j, hj, hw⟩ | hw | y2 | hg
        · have y1 := (wB_1 hw).1
          have e : wrT Q (tp Q t) = some (⟨19 + j, by omega⟩ : Fin 23) := wr_iff.mpr hw
          refine leaf (cst (nI 2) (nI j)) 2 j (wva_f j hj).2 rfl (by decide) (by decide) ⟨fun q => by omega, fun _ => hj⟩ (fun σ hC P hP => ?_) (fun σ hM P hP => ?_)
          · refine gp_j hC.1 hp2 ?_
            unfold gpJ
            have e5 : c5 (wrT Q (tp Q t)) = 1 := by
              rw [e]
              show (if _ then _ else _) = _
              rw [if_pos ((wgr_2 _).1.mpr (by show 19 ≤ 19 + j; omega))]
            have n16 : ¬ (some (⟨19 + j, by omega⟩ : Fin 23)) = some (16 : Fin 23) := fun q => by
              have := congrArg Fin.val (Option.some.inj q)
              have : 19 + j = 16 := this
              omega
            rw [if_pos lt5, e5, e, if_neg n16, if_pos rfl]
            have hk := SC_k hC.1
            have hww := SC_w hC.1
            rw [if_pos rfl] at hk hww
            refine ws_gv hk ?_
            rw [if_neg (fun q => by
              have := (kd_iff (by decide) (by decide) (by decide) (by decide)).mp q
              omega), if_neg (by decide)]
            refine bd_asw (ws_gW hww (bd_asw ?_))
            rw [e]
            refine wp_eq (show nn (some (⟨19 + j, by omega⟩ : Fin 23)) σ = some (_, σ) from rfl) ?_
            refine wp_eq (show pu _ σ = some (_, σ) from rfl) ?_
            rw [show wva.getD (⟨19 + j, by omega⟩ : Fin 23).val 0 = cst (nI 2) (nI j) from (wva_f j hj).1]
            exact hP
          · refine gm_j vQ hd hM.1 hp2 (fun q => absurd q d5) (fun _ => ?_)
            unfold gmT
            refine wp_bd (m_hasWord (k := 16) vQ h1 (by decide) hM.1) ?_
            rintro r τ1 ⟨rfl, s1, f1⟩
            have n16 : (decide ((0 : Nat) = 0) && wB Q 16 t) = false := by rw [wB_x (j := 16) (by omega) (by decide) hw (by omega)]; rfl
            rw [n16] at s1 ⊢
            rw [if_pos (show b2i false = 0 from rfl)]
            refine bd_asw (wp_bd (m_hasSign vQ h1 s1 40) ?_)
            rintro r τ2 ⟨rfl, s2, f2⟩
            have n40 : (decide ((0 : Nat) = 0) && gB Q 40 (if false = true then t + 1 else t)) = false := by
              show (decide ((0 : Nat) = 0) && gB Q 40 t) = false
              rw [gB_no (by omega)]; rfl
            rw [n40] at s2 ⊢
            rw [if_pos (show b2i false = 0 from rfl)]
            have hv : (if yT Q (tp Q t) = 2 then (1 : Int32) else 0) = 0 := if_neg (by omega)
            rw [hv, if_pos rfl, if_pos rfl, wh_some (by decide) (by decide) hj hw]
            refine bd_asw (wp_eq (show pu (2 : Int32) τ2 = some (_, τ2) from rfl) (bd_asw (wp_eq (show pu (nI j) τ2 = some (_, τ2) from rfl) ?_)))
            have h4 := hP τ2 s2 (eqr_tr f1 f2)
            exact wp_bd (P := P) h4 (fun _ τ q => wp_pu q)
        · have y1 := (wB_1 hw).1
          have e : wrT Q (tp Q t) = some (16 : Fin 23) := wr_iff.mpr hw
          obtain ⟨t1, E1, L1, z1, ⟨p1, p2, p3, p4, p5, p6⟩, pC, pM⟩ := ih (d + 1) (by omega) (by omega) (t + 1) 0 L z (by decide) (by omega) (by omega)
          refine ⟨t1, E1, up1 L1 z1 (-5), z1 + 1, ⟨p1, by omega, p3, by omega, by omega, fun q => ?_⟩, fun σ hC => ?_, fun σ hM => ?_⟩
          · obtain ⟨rb, r1, r2, r3, r4, r5⟩ := p6 q
            exact ⟨by omega, rfl, by omega, by omega, fun j hj => by rw [up1_ne (by omega), r4 j hj], WFs_not (by omega) (by omega) (WFs_m (by omega) r5)⟩
          · refine gp_j hC.1 hp2 ?_
            unfold gpJ
            rw [if_pos lt5, e, if_pos rfl, if_neg (by decide)]
            refine wp_bd (c_adv vQ hC.1) ?_
            rintro _ τ1 ⟨s1, f1⟩
            rw [nI_1]
            refine wp_bd (pC τ1 (EC_s hC s1 f1 (fun q => q))) ?_
            rintro _ τ2 ⟨s2, f2⟩
            refine wp_bd (c_addStep (s := -5) (fun _ => by omega) s2) ?_
            rintro _ τ3 ⟨s3, f3⟩
            exact wp_pu ⟨s3, FEc_tr (FEc_t f1) (FEc_tr f2 f3)⟩
          · refine gm_j vQ hd hM.1 hp2 (fun q => absurd q d5) (fun _ => ?_)
            unfold gmT
            refine wp_bd (m_hasWord (k := 16) vQ h1 (by decide) hM.1) ?_
            rintro r τ1 ⟨rfl, s1, f1⟩
            have n16 : (decide ((0 : Nat) = 0) && wB Q 16 t) = true := by rw [hw]; rfl
            rw [n16] at s1 ⊢
            rw [if_neg (show ¬ b2i true = 0 by decide), nI_1]
            refine bd_asw (wp_bd (pM τ1 (EM_s hM s1 f1 (fun q => q))) ?_)
            rintro _ τ2 ⟨s2, f2⟩
            refine bd_asw (wp_bd (m_emit (o := 3) (a := 0) (by omega) (by decide) (by decide) ⟨fun q => by omega, fun q => by omega⟩ s2) ?_)
            rintro _ τ3 ⟨s3, f3⟩
            exact wp_eq (show pu () τ3 = some ((), τ3) from rfl) (wp_pu ⟨s3, eqr_tr (Rat_em f1) (eqr_tr f2 f3)⟩)
        · have hn := nT_lt (tp_le (Q := Q) t) y2
          have e : wrT Q (tp Q t) = none := wr_none (by omega)
          refine leaf (nI (nT Q (tp Q t))) 1 (nT Q (tp Q t)) (fun q => ?_) rfl (by decide) (by decide) ⟨fun _ => hn, fun q => by omega⟩ (fun σ hC P hP => ?_) (fun σ hM P hP => ?_)
          · have := nI_pos' (n := nT Q (tp Q t)) (by omega)
            rw [Int32.lt_iff_toInt_lt] at q
            rw [Int32.le_iff_toInt_le] at this
            have e4 : (-4 : Int32).toInt = -4 := by decide
            have e00 : (0 : Int32).toInt = 0 := by decide
            omega
          · refine gp_j hC.1 hp2 ?_
            unfold gpJ
            rw [if_pos lt5, e, if_neg (show ¬ (none : Option (Fin 23)) = some (16 : Fin 23) by simp), if_pos rfl]
            have hk := SC_k hC.1
            rw [if_pos rfl] at hk
            refine ws_gv hk ?_
            rw [if_neg (fun q => by
              have := (kd_iff (by decide) (by decide) (by decide) (by decide)).mp q
              omega), show c5 none = 0 from rfl, if_pos rfl]
            refine bd_asw (ws_gv ((hC.1.2.2.1 rfl).2.2.2.1 y2) ?_)
            exact wp_eq (show pu _ σ = some (_, σ) from rfl) hP
          · refine gm_j vQ hd hM.1 hp2 (fun q => absurd q d5) (fun _ => ?_)
            unfold gmT
            rw [r249_6]
            refine wp_bd (m_hasWord (k := 16) vQ h1 (by decide) hM.1) ?_
            rintro r τ1 ⟨rfl, s1, f1⟩
            have n16 : (decide ((0 : Nat) = 0) && wB Q 16 t) = false := by rw [wB_no (by omega)]; rfl
            rw [n16] at s1 ⊢
            rw [if_pos (show b2i false = 0 from rfl)]
            refine bd_asw (wp_bd (m_hasSign vQ h1 s1 40) ?_)
            rintro r τ2 ⟨rfl, s2, f2⟩
            have n40 : (decide ((0 : Nat) = 0) && gB Q 40 (if false = true then t + 1 else t)) = false := by
              show (decide ((0 : Nat) = 0) && gB Q 40 t) = false
              rw [gB_no (by omega)]; rfl
            rw [n40] at s2 ⊢
            rw [if_pos (show b2i false = 0 from rfl)]
            have hv : (if yT Q (tp Q t) = 2 then (1 : Int32) else 0) = 1 := if_pos y2
            rw [hv, if_neg (by decide), if_neg (by decide)]
            have s2' : SM Q m t 0 τ2 := s2
            refine bd_asw (wp_eq (show pu (1 : Int32) τ2 = some (_, τ2) from rfl) (bd_asw (bd_asw (ws_gv s2'.2.2.2.1 (bd_asw (ws_aL (by omega) (by decide) ((s2'.1.2.2.2 t h2).2.2.2.1 y2) ?_))))))
            rw [lN_i]
            refine wp_eq (show pu _ τ2 = some (_, τ2) from rfl) ?_
            have h4 := hP τ2 s2' (eqr_tr f1 f2)
            exact wp_bd (P := P) h4 (fun _ τ q => wp_pu q)
        · have y3 := (gB_3 hg).1
          have e : wrT Q (tp Q t) = none := wr_none (by omega)
          have hW : PX Q m (FX0_readWhole (FX0_readPart k) 25 1 (nI (d + 1))) (FX12_whole (FX12_takePart k) 249 (nI (d + 1))) (4 * (d + 1)) := px_whole vQ hm hend (px_test vQ hm hend (px_sum vQ hm hend (px_product vQ hm hend (ih (d + 1) (by omega) (by omega)))))
          obtain ⟨t1, E1, L1, z1, ⟨p1, p2, p3, p4, p5, p6⟩, pC, pM⟩ := hW (t + 1) 0 L z (by decide) (by omega) (by omega)
          refine ⟨(st1 Q (gB Q 41 t1) 1 t1 E1).1, (st1 Q (gB Q 41 t1) 1 t1 E1).2, L1, z1, ?_, fun σ hC => ?_, fun σ hM => ?_⟩
          · by_cases e1 : E1 = 0
            · subst e1
              obtain ⟨rb, r1, r2, r3, r4, r5⟩ := p6 rfl
              by_cases g : gB Q 41 t1 = true
              · rw [g, st1_t]
                have : t1 < m := by
                  apply Classical.byContradiction
                  intro n
                  apply gB_y g
                  rw [show t1 = m by omega]
                  exact hend
                exact ⟨by show 0 < 20000; decide, by show t ≤ t1 + 1; omega, by show t1 + 1 ≤ m; omega, by omega, by show z1 + t ≤ t1 + 1 + z; omega, fun _ => ⟨by omega, rfl, by show t < t1 + 1; omega, r3, r4, WFs_m (by omega) r5⟩⟩
              · rw [show gB Q 41 t1 = false by simpa using g, st1_f]
                exact ⟨fc_lt vQ (by decide), by show t ≤ t1; omega, p3, by omega, by show z1 + t ≤ t1 + z; omega, fun q => absurd q (fc_ne (by decide))⟩
            · rw [st1_d e1]
              exact ⟨p1, by show t ≤ t1; omega, p3, by omega, by show z1 + t ≤ t1 + z; omega, fun q => absurd q e1⟩
          · refine gp_j hC.1 hp2 ?_
            unfold gpJ
            rw [if_pos lt5, e, if_neg (show ¬ (none : Option (Fin 23)) = some (16 : Fin 23) by simp), if_pos rfl]
            have hk := SC_k hC.1
            rw [if_pos rfl] at hk
            refine ws_gv hk ?_
            rw [if_pos ((kd_iff (by decide) (by decide) (by decide) (by decide)).mpr (gB_3 hg))]
            refine wp_bd (c_adv vQ hC.1) ?_
            rintro _ τ1 ⟨s1, f1⟩
            rw [nI_1]
            refine wp_bd (pC τ1 (EC_s hC s1 f1 (fun q => q))) ?_
            rintro _ τ2 ⟨s2, f2⟩
            have hx := c_expectSign (c := 41) vQ p1 (by decide) (by decide) (by decide) (by decide) s2.1
            have hx2 : wp (FX5_expectSign 1 41) τ2 (fun _ τ => EC Q (st1 Q (gB Q 41 t1) 1 t1 E1).1 (st1 Q (gB Q 41 t1) 1 t1 E1).2 L1 z1 τ ∧ FEc σ τ) := wp_mono hx (fun _ τ q => ⟨EC_s s2 q.1 q.2 (fun e3 => by
              apply Classical.byContradiction
              intro n
              rw [st1_d n] at e3
              exact n e3), FEc_tr (FEc_t f1) (FEc_tr f2 (FEc_t q.2))⟩)
            refine ws_gv (x := τ2.1 1 2) rfl ?_
            obtain ⟨r, τ3, e3, q3⟩ := hx2
            refine ⟨(), τ3, ?_, q3⟩
            rw [← e3]
            unfold FX5_expectSign
            refine Eq.symm ((ev_bd (show gI 1 2 τ2 = some (τ2.1 1 2, τ2) from rfl)).trans ?_)
            by_cases g : τ2.1 1 2 = 41
            · rw [if_pos g, bd_as]; rfl
            · rw [if_neg g, bd_as]; rfl
          · refine gm_j vQ hd hM.1 hp2 (fun q => absurd q d5) (fun _ => ?_)
            unfold gmT
            refine wp_bd (m_hasWord (k := 16) vQ h1 (by decide) hM.1) ?_
            rintro r τ1 ⟨rfl, s1, f1⟩
            have n16 : (decide ((0 : Nat) = 0) && wB Q 16 t) = false := by rw [wB_no (by omega)]; rfl
            rw [n16] at s1 ⊢
            rw [if_pos (show b2i false = 0 from rfl)]
            refine bd_asw (wp_bd (m_hasSign vQ h1 s1 40) ?_)
            rintro r τ2 ⟨rfl, s2, f2⟩
            have n40 : (decide ((0 : Nat) = 0) && gB Q 40 (if false = true then t + 1 else t)) = true := by
              show (decide ((0 : Nat) = 0) && gB Q 40 t) = true
              rw [hg]; rfl
            rw [n40] at s2 ⊢
            rw [if_neg (show ¬ b2i true = 0 by decide), nI_1]
            refine bd_asw (wp_bd (pM τ2 (EM_s hM s2 (eqr_tr f1 f2) (fun q => q))) ?_)
            rintro _ τ3 ⟨s3, f3⟩
            refine bd_asw (wp_bd (m_takeSign vQ p1 s3.1 41) ?_)
            rintro _ τ4 ⟨s4, f4⟩
            exact wp_eq (show pu () τ4 = some ((), τ4) from rfl) (wp_pu ⟨EM_s s3 s4 f4 (fun e3 => by
              apply Classical.byContradiction
              intro n
              rw [st1_d n] at e3
              exact n e3), eqr_tr (Rat_em (eqr_tr f1 f2)) (eqr_tr f3 (Rat_em f4))⟩)
/-- a whole law's expression -/
theorem px_expr {Q : TA} {m : Nat} (vQ : VTa Q) (hm : m ≤ 1000) (hend : yT Q (tp Q m) = 0) {k : Nat} (hk : 6 ≤ k) : PX Q m (FX0_readWhole (FX0_readPart k) 25 1 (nI 0)) (FX12_whole (FX12_takePart k) 249 (nI 0)) 0 := px_whole (d := 0) vQ hm hend (px_test vQ hm hend (px_sum vQ hm hend (px_product vQ hm hend (px_part vQ hm hend k 0 (by decide) (by omega)))))
