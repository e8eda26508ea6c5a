theorem c_advance {Q : TA} {σ : MM} {i : Nat} (vQ : VTa Q) (hQ : CTa Q σ) (hi : i ≤ Q.1) (h8 : σ.1 1 8 = nI i) : wp (FX5_advance 1) σ (fun _ τ => TkC Q i τ ∧ τ.1 1 6 = σ.1 1 6 ∧ FT σ τ) := by
  have vn := vQ.1
  obtain ⟨s1, s2⟩ := sT_le hi
  have rin := run_in (p := fun k => isB (Q.2 k)) (Q.1 - i) i
  have rout := run_out (p := fun k => isB (Q.2 k)) (Q.1 - i) i
  unfold FX5_advance
  rw [r1_0]
  refine ws_sW (ws_sL (ws_s ?_))
  show wp _ ((up2 σ.1 1 5 0, up2 σ.2.1 1 4 0, none) : MM) _
  have hF0 : FT σ (up2 σ.1 1 5 0, up2 σ.2.1 1 4 0, none) := FT_tr (FT_w (w := none)) (FT_tr (FT_l (σ := (σ.1, σ.2.1, none))) (FT_i (σ := (σ.1, up2 σ.2.1 1 4 0, none)) (by decide)))
  have a8 : ((up2 σ.1 1 5 0, up2 σ.2.1 1 4 0, none) : MM).1 1 8 = nI i := (mm_ne (by omega)).trans h8
  have a5 : ((up2 σ.1 1 5 0, up2 σ.2.1 1 4 0, none) : MM).1 1 5 = 0 := mm_at
  have a4 : ((up2 σ.1 1 5 0, up2 σ.2.1 1 4 0, none) : MM).2.1 1 4 = 0 := by show up2 σ.2.1 1 4 0 1 4 = 0; exact up2L_at
  have aw : ((up2 σ.1 1 5 0, up2 σ.2.1 1 4 0, none) : MM).2.2 = none := rfl
  have a6 : ((up2 σ.1 1 5 0, up2 σ.2.1 1 4 0, none) : MM).1 1 6 = σ.1 1 6 := mm_ne (by omega)
  generalize ((up2 σ.1 1 5 0, up2 σ.2.1 1 4 0, none) : MM) = τ0 at hF0 a8 a5 a4 aw a6
  refine ws_it (fun k _ τ => τ.1 1 8 = nI (i + k) ∧ τ.1 1 5 = 0 ∧ τ.2.1 1 4 = 0 ∧ τ.2.2 = none ∧ τ.1 1 6 = σ.1 1 6 ∧ FT σ τ) (sT Q i - i) (by omega) ⟨a8, a5, a4, aw, a6, hF0⟩ ?_
  rintro k _ τ hk ⟨k8, k5, k4, kw, k6, hF⟩
  have hQ2 := CTa_f hF hQ
  refine ws_gv k8 (ws_gv hQ2.1 ?_)
  by_cases hkn : k < sT Q i - i
  · rw [if_neg (nle_n (by omega) (by omega))]
    refine ws_gv k8 (ws_a (by omega) (by decide) (hQ2.2 (i + k) (by omega)) ?_)
    have hb := rin (i + k) (by omega) (by unfold sT at hkn; omega)
    refine wp_eq (c_isBlank _ τ) ?_
    rw [if_neg (bt hb)]
    refine ws_gv k8 (ws_s (wp_pu (Or.inl ⟨_, rfl, hkn, mm_at.trans (nI_1 _), (mm_ne (by omega)).trans k5, k4, kw, (mm_ne (by omega)).trans k6, FT_tr hF (FT_i (by decide))⟩)))
  have he : i + k = sT Q i := by omega
  rw [he] at k8
  have ext : wp (bd (gI 1 8) (fun x9 => bd (sI 1 7 x9) (fun (_ : Unit) => bd (gI 1 8) (fun x10 => bd (gI 1 1) (fun x11 => if x10 < x11 then bd (gI 1 8) (fun x12 => bd (aI 2 1000 x12) (fun x13 => bd (FX5_isLetter x13) (fun x14 => bd (if ((b2i x14)) = 0 then bd (FX5_isDigit x13) (fun x15 => if ((b2i x15)) = 0 then bd (FJ0_indexOf_0f7a4 23 x13) (fun x16 => bd (if x16 < 0 then pu (1 : Int32) else pu x13 : PP (Int32)) (fun (v17 : Int32) => bd (sI 1 2 v17) (fun (_ : Unit) => bd (gI 1 8) (fun x18 => bd (sI 1 8 (x18 + (1 : Int32))) (fun (_ : Unit) => pu ()))))) else bd (FX5_readDigits 1) (fun (_ : Unit) => pu ())) else bd (FX5_readWord 1) (fun (_ : Unit) => pu ()) : PP (Unit)) (fun (v21 : Unit) => pu ())))) else bd (sI 1 2 (0 : Int32)) (fun (_ : Unit) => pu ())))))) τ (fun _ τ => TkC Q i τ ∧ τ.1 1 6 = σ.1 1 6 ∧ FT σ τ) := by
    refine ws_gv k8 (ws_s ?_)
    have hF1 : FT σ (up2 τ.1 1 7 (nI (sT Q i)), τ.2) := FT_tr hF (FT_i (by decide))
    have b8 : ((up2 τ.1 1 7 (nI (sT Q i)), τ.2) : MM).1 1 8 = nI (sT Q i) := (mm_ne (by omega)).trans k8
    have b7 : ((up2 τ.1 1 7 (nI (sT Q i)), τ.2) : MM).1 1 7 = nI (sT Q i) := mm_at
    have b5 : ((up2 τ.1 1 7 (nI (sT Q i)), τ.2) : MM).1 1 5 = 0 := (mm_ne (by omega)).trans k5
    have b4 : ((up2 τ.1 1 7 (nI (sT Q i)), τ.2) : MM).2.1 1 4 = 0 := k4
    have bw : ((up2 τ.1 1 7 (nI (sT Q i)), τ.2) : MM).2.2 = none := kw
    have b6 : ((up2 τ.1 1 7 (nI (sT Q i)), τ.2) : MM).1 1 6 = σ.1 1 6 := (mm_ne (by omega)).trans k6
    generalize ((up2 τ.1 1 7 (nI (sT Q i)), τ.2) : MM) = τ1 at hF1 b8 b7 b5 b4 bw b6
    have hQ3 := CTa_f hF1 hQ
    refine ws_gv b8 (ws_gv hQ3.1 ?_)
    by_cases z : sT Q i < Q.1
    · rw [if_pos (nIlt z (by omega))]
      refine ws_gv b8 (ws_a (by omega) (by decide) (hQ3.2 (sT Q i) z) ?_)
      refine wp_eq (c_isLetter _ τ1) ?_
      by_cases zl : isL (Q.2 (sT Q i)) = true
      · rw [if_neg (bt zl)]
        refine bd_asw (wp_bd (c_readWord vQ hQ3 z zl b8 b7 b4 bw) ?_)
        rintro _ υ ⟨⟨u8, u7, u6, u2, uw, u4⟩, uF⟩
        have ee : eT Q i = run (fun k => isL (Q.2 k)) (sT Q i) (Q.1 - sT Q i) := by unfold eT; rw [if_pos z, if_pos zl]
        have ey : yT Q i = if eT Q i - sT Q i ≤ 8 then 1 else 4 := by unfold yT; rw [if_pos z, if_pos zl]
        rw [← ee] at u8 u2 uw u4
        refine wp_eq (show pu () υ = some ((), υ) from rfl) (wp_pu ⟨⟨?_, ?_, fun _ => u4, fun h => ?_, u7, u8⟩, u6.trans b6, FT_tr hF1 uF⟩)
        · rw [u2]
          unfold kdT
          rw [ey]
          by_cases z8 : eT Q i - sT Q i ≤ 8
          · rw [if_pos z8, if_pos z8]; rfl
          · rw [if_neg z8, if_neg z8]; rfl
        · rw [uw]
          unfold wrT
          rw [ey]
          by_cases z8 : eT Q i - sT Q i ≤ 8
          · rw [if_pos z8, if_pos z8]; rfl
          · rw [if_neg z8, if_neg z8]; rfl
        · rw [ey] at h
          split at h <;> omega
      · rw [if_pos (bf zl)]
        refine bd_asw (wp_eq (c_isDigit _ τ1) ?_)
        by_cases zd : isD (Q.2 (sT Q i)) = true
        · rw [if_neg (bt zd)]
          refine bd_asw (wp_bd (c_readDigits vQ hQ3 z b8 b7 b5) ?_)
          rintro _ υ ⟨⟨u8, u7, u6, u2, uw, u5⟩, uF⟩
          have ee : eT Q i = run (fun k => isD (Q.2 k)) (sT Q i) (Q.1 - sT Q i) := by unfold eT; rw [if_pos z, if_neg zl, if_pos zd]
          have ey : yT Q i = if eT Q i - sT Q i ≤ 4 then 2 else 4 := by unfold yT; rw [if_pos z, if_neg zl, if_pos zd]
          rw [← ee] at u8 u2 u5
          refine wp_eq (show pu () υ = some ((), υ) from rfl) (wp_pu ⟨⟨?_, ?_, fun h => ?_, fun _ => u5, u7, u8⟩, u6.trans b6, FT_tr hF1 uF⟩)
          · rw [u2]
            unfold kdT
            rw [ey]
            by_cases z8 : eT Q i - sT Q i ≤ 4
            · rw [if_pos z8, if_pos z8]; rfl
            · rw [if_neg z8, if_neg z8]; rfl
          · rw [uw, bw]
            unfold wrT
            rw [ey]
            by_cases z8 : eT Q i - sT Q i ≤ 4
            · rw [if_pos z8]; rfl
            · rw [if_neg z8]; rfl
          · rw [ey] at h
            split at h <;> omega
        · rw [if_pos (bf zd)]
          obtain ⟨q, eq, hq⟩ := vQ.2 (sT Q i) z
          rw [eq]
          obtain ⟨x, ex, hx⟩ := j_indexOf (q := q) (by omega) τ1
          have ee : eT Q i = sT Q i + 1 := by unfold eT; rw [if_pos z, if_neg zl, if_neg zd]
          have ey : yT Q i = if isS (Q.2 (sT Q i)) = true then 3 else 4 := by unfold yT; rw [if_pos z, if_neg zl, if_neg zd]
          refine bd_asw (wp_eq ex ?_)
          refine bd_asw (wp_eq (x := kdT Q i) (τ := τ1) ?_ ?_)
          · unfold kdT
            rw [ey, eq]
            by_cases zs : isS (nI q) = true
            · rw [if_neg (fun h => hx.mp h zs), if_pos zs]; rfl
            · rw [if_pos (hx.mpr zs), if_neg zs]; rfl
          refine bd_asw (ws_s (bd_asw (ws_gv (x := nI (sT Q i)) ((mm_ne (by omega)).trans b8) (bd_asw (ws_s ?_)))))
          refine wp_eq (show pu () _ = some ((), _) from rfl) (wp_pu ⟨⟨(mm_ne (by omega)).trans mm_at, ?_, fun h => ?_, fun h => ?_, (mm_ne (by omega)).trans ((mm_ne (by omega)).trans b7), mm_at.trans ?_⟩, (mm_ne (by omega)).trans ((mm_ne (by omega)).trans b6), FT_tr hF1 (FT_tr (FT_i (by decide)) (FT_i (by decide)))⟩)
          · show τ1.2.2 = _
            rw [bw]
            unfold wrT
            rw [ey]
            split <;> rfl
          · rw [ey] at h
            split at h <;> omega
          · rw [ey] at h
            split at h <;> omega
          · rw [nI_1, ee]
    · rw [if_neg (fun q => z ((nI_ltI (by omega) (by omega)).mp q))]
      have ee : eT Q i = sT Q i := by unfold eT; rw [if_neg z]
      have ey : yT Q i = 0 := by unfold yT; rw [if_neg z]
      refine ws_s (wp_pu ⟨⟨mm_at.trans ?_, ?_, fun h => by omega, fun h => by omega, (mm_ne (by omega)).trans b7, (mm_ne (by omega)).trans ?_⟩, (mm_ne (by omega)).trans b6, FT_tr hF1 (FT_i (by decide))⟩)
      · unfold kdT; rw [ey]; rfl
      · show τ1.2.2 = _
        rw [bw]
        unfold wrT
        rw [ey]
        rfl
      · rw [b8, ee]
  by_cases z : sT Q i = Q.1
  · rw [if_pos (nI_le (by omega) (by omega))]
    exact wp_pu (Or.inr ⟨_, rfl, ext⟩)
  · rw [if_neg (nle_n (by omega) (by omega))]
    refine ws_gv (k8.trans (by rw [he])) (ws_a (by omega) (by decide) (hQ2.2 (i + k) (by omega)) ?_)
    have hb := rout (by unfold sT at z s2; omega)
    have hb' : isB (Q.2 (i + k)) = false := by rw [he]; exact hb
    refine wp_eq (c_isBlank _ τ) ?_
    rw [if_pos (bf (by rw [hb']; decide))]
    exact wp_pu (Or.inr ⟨_, rfl, ext⟩)
