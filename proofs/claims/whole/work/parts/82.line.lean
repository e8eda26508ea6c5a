/-! ===== a line told ===== -/
def PS (Q : TA) (m : Nat) (k : Nat) (C M : PP Unit) : Prop := ∀ t T N b, DV T N b → t < m → wB Q k t = true → ∃ (t' E' : Nat) (T' : TW) (N' : NM) (b' : Bool), (E' < 20000 ∧ t ≤ t' ∧ t' ≤ m ∧ (E' = 0 → t < t' ∧ DV T' N' b')) ∧ (∀ σ, SC Q t 0 σ → DC T N b σ → wp C σ (fun _ τ => SC Q t' E' τ ∧ (E' = 0 → DC T' N' b' τ) ∧ FDc σ τ)) ∧ ∀ σ, SM Q m t 0 σ → DM T N b σ → wp (bd M (fun (_ : Unit) => FX12_takeSign 249 (59 : Int32))) σ (fun _ τ => SM Q m t' E' τ ∧ (E' = 0 → DM T' N' b' τ) ∧ FDm σ τ)
theorem t_ltm {Q : TA} {m t : Nat} (hend : yT Q (tp Q m) = 0) (ht : t ≤ m) (hy : ¬ yT Q (tp Q t) = 0) : t < m := by
  apply Classical.byContradiction
  intro n
  apply hy
  rw [show t = m by omega]
  exact hend
theorem st1_m {Q : TA} {m t E k : Nat} {b : Bool} (vQ : VTa Q) (hend : yT Q (tp Q m) = 0) (hk : 0 < k ∧ k < 10) (hb : b = true → ¬ yT Q (tp Q t) = 0) (ht : t ≤ m) (hE : E < 20000) : (st1 Q b k t E).1 ≤ m ∧ t ≤ (st1 Q b k t E).1 ∧ (st1 Q b k t E).2 < 20000 ∧ ((st1 Q b k t E).2 = 0 → E = 0 ∧ b = true ∧ (st1 Q b k t E).1 = t + 1) := by
  by_cases e0 : E = 0
  · subst e0
    cases b with
    | true =>
      rw [st1_t]
      exact ⟨t_ltm hend ht (hb rfl), Nat.le_succ t, by show 0 < 20000; decide, fun _ => ⟨rfl, rfl, rfl⟩⟩
    | false =>
      rw [st1_f]
      exact ⟨ht, Nat.le_refl t, fc_lt vQ hk.2, fun q => absurd q (fc_ne hk.1)⟩
  · rw [st1_d e0]
    exact ⟨ht, Nat.le_refl t, hE, fun q => absurd q e0⟩
theorem stN_m {Q : TA} {m t E lo hi : Nat} (vQ : VTa Q) (hend : yT Q (tp Q m) = 0) (ht : t ≤ m) (hE : E < 20000) : (stN Q lo hi t E).1 ≤ m ∧ t ≤ (stN Q lo hi t E).1 ∧ (stN Q lo hi t E).2 < 20000 ∧ ((stN Q lo hi t E).2 = 0 → E = 0 ∧ lo ≤ nT Q (tp Q t) ∧ nT Q (tp Q t) ≤ hi) := by
  unfold stN
  by_cases e0 : E = 0
  · rw [if_pos e0]
    by_cases y : yT Q (tp Q t) = 2
    · rw [if_pos y]
      by_cases z : lo ≤ nT Q (tp Q t) ∧ nT Q (tp Q t) ≤ hi
      · rw [if_pos z]
        exact ⟨t_ltm hend ht (by omega), Nat.le_succ t, by show 0 < 20000; decide, fun _ => ⟨e0, z.1, z.2⟩⟩
      · rw [if_neg z]
        exact ⟨ht, Nat.le_refl t, fc_lt vQ (by decide), fun q => absurd q (fc_ne (by decide))⟩
    · rw [if_neg y]
      exact ⟨ht, Nat.le_refl t, fc_lt vQ (by decide), fun q => absurd q (fc_ne (by decide))⟩
  · rw [if_neg e0]
    exact ⟨ht, Nat.le_refl t, hE, fun q => absurd q e0⟩
theorem hd_m {Q : TA} {T : TW} {N : NM} {full : Bool} {m t : Nat} {R : Nat × Nat} (hend : yT Q (tp Q m) = 0) (ht : t < m) (h : hd Q T N full t R) : R.1 ≤ m := by
  rcases h with ⟨h, rfl⟩ | ⟨h, h1, rfl⟩ | ⟨h, h1, h2, rfl⟩ | ⟨h, h1, h2, rfl⟩
  · exact Nat.le_of_lt ht
  · exact ht
  · exact ht
  · exact t_ltm hend (show t + 1 ≤ m from ht) (by rw [nm_1 h1]; decide)
theorem up2_rw {f : Nat → Nat → Int32} {a j b : Nat} {x : Int32} (h : b ≠ a) : up2 f a j x b = f b := funext (fun i => up2_ne (by omega))
def liT (T : TW) (v : Int32) : TW := (inT T 0, up2 (up2 T.2 0 (T.1 0) v) 1 (T.1 0) 0)
theorem liT_row {T : TW} {v : Int32} {k : Nat} (h : 2 ≤ k) : (liT T v).2 k = T.2 k := by
  show up2 (up2 T.2 0 (T.1 0) v) 1 (T.1 0) 0 k = T.2 k
  rw [up2_rw (by omega), up2_rw (by omega)]
theorem DV_li {T : TW} {N : NM} {b : Bool} {w : List Nat} {v : Nat} (hV : DV T N b) (h5 : T.1 0 < 5) (hv : 1 ≤ v ∧ v ≤ 9) (hw : isW w) (hn : ¬ tld T N w) : DV (liT T (nI v)) (inW T N 0 w) b := by
  obtain ⟨⟨⟨a1, a2, a3, a4⟩, a5, a6, a7⟩, h2, h3, h4⟩ := hV
  have r5 : (liT T (nI v)).2 5 = T.2 5 := liT_row (by decide)
  have n3 : (liT T (nI v)).1 3 = T.1 3 := inT_ne (T := T) (r := 0) (k := 3) (by decide)
  refine ⟨⟨⟨?_, ?_, ?_, ?_⟩, ?_, fun c hc => ?_, fun l hl => ?_⟩, VNa_in (by decide) (Or.inl rfl) hw hn h2, fun q => ?_, fun l hl => ?_⟩
  · show inT T 0 0 ≤ 5; rw [inT_at]; omega
  · show inT T 0 1 ≤ 4; rw [inT_ne (by decide)]; exact a2
  · show inT T 0 2 ≤ 6; rw [inT_ne (by decide)]; exact a3
  · rw [n3]; exact a4
  · rw [r5, n3]; exact a5
  · have hc : c < inT T 0 2 := hc
    rw [inT_ne (by decide)] at hc
    have e3 : (liT T (nI v)).2 3 = T.2 3 := liT_row (by decide)
    have e4 : (liT T (nI v)).2 4 = T.2 4 := liT_row (by decide)
    rw [e3, e4]; exact a6 c hc
  · have hl : l < inT T 0 0 := hl
    rw [inT_at] at hl
    show ∃ q, 1 ≤ q ∧ q ≤ 9 ∧ up2 (up2 T.2 0 (T.1 0) (nI v)) 1 (T.1 0) 0 0 l = nI q
    rw [up2_ne (by omega)]
    by_cases z : l = T.1 0
    · subst z
      exact ⟨v, hv.1, hv.2, up2_at⟩
    · rw [up2_ne (by omega)]; exact a7 l (by omega)
  · rw [r5, n3]; exact h3 q
  · have hl : l < inT T 0 0 := hl
    rw [inT_at] at hl
    show ∃ H, H < 32 ∧ up2 (up2 T.2 0 (T.1 0) (nI v)) 1 (T.1 0) 0 1 l = nI H
    by_cases z : l = T.1 0
    · subst z
      exact ⟨0, by decide, up2_at⟩
    · rw [up2_ne (by omega), up2_ne (by omega)]; exact h4 l (by omega)
theorem c_addLine {Q : TA} {t : Nat} {T : TW} {N : NM} {b : Bool} {w : List Nat} {v : Int32} {σ : MM} (h5 : T.1 0 < 5) (hS : SC Q t 0 σ) (hD : DC T N b σ) : wp (FX7_addLine 16 (p32 w) v) σ (fun _ τ => SC Q t 0 τ ∧ DC (liT T v) (inW T N 0 w) b τ ∧ FDc σ τ) := by
  obtain ⟨⟨a1, a2, a3⟩, a4, a5, a6, ⟨a7, a8⟩, a9, a10⟩ := hD
  unfold FX7_addLine
  rw [r16_0, r16_3, r16_4]
  refine ws_gv a1 ?_
  rw [if_neg (show ¬ (5 : Int32) ≤ nI (T.1 0) from nle_n (b := 5) h5 (by decide))]
  refine bd_asw (ws_gv a1 (bd_asw (ws_uL h5 (by decide) (bd_asw (ws_gv (x := nI (T.1 0)) a1 (bd_asw (ws_u h5 (by decide) (bd_asw (ws_gv (x := nI (T.1 0)) ((mm_ne (by omega)).trans a1) (bd_asw (ws_u h5 (by decide) (bd_asw (ws_gv (x := nI (T.1 0)) ((mm_ne (by omega)).trans ((mm_ne (by omega)).trans a1)) (bd_asw (ws_s ?_)))))))))))))))
  refine wp_eq (show pu () _ = some ((), _) from rfl) (wp_pu ?_)
  have fq : ∀ b j, ¬ ((b = 20 ∨ b = 21) ∧ j = T.1 0) → ¬ (b = 16 ∧ j = 9) → up2 (up2 (up2 σ.1 20 (T.1 0) v) 21 (T.1 0) 0) 16 9 (nI (T.1 0) + 1) b j = σ.1 b j := fun b j n1 n2 => by rw [up2_ne (by omega), up2_ne (by omega), up2_ne (by omega)]
  have fl : ∀ b j, ¬ (b = 17 ∧ j = T.1 0) → up2 σ.2.1 17 (T.1 0) (p32 w) b j = σ.2.1 b j := fun b j n => up2L_ne n
  refine ⟨SC_f hS (fun j => fq 1 j (by omega) (by omega)) (fun j => fq 2 j (by omega) (by omega)) (fl 1 4 (by omega)) rfl, ⟨⟨?_, ?_, ?_⟩, fun l hl => ?_, fun p hp => ?_, fun c hc => ?_, ⟨?_, fun k hk => ?_⟩, ?_, fun r hr i hi => ?_⟩, fun b j n => fq b j (by omega) (by omega), fun b j n n2 => fl b j (by omega)⟩
  · rw [show (liT T v).1 0 = T.1 0 + 1 from inT_at (T := T) (r := 0)]
    exact mm_at.trans (nI_1 _)
  · show _ = nI (inT T 0 1)
    rw [inT_ne (by decide)]; exact (fq 16 10 (by omega) (by omega)).trans a2
  · show _ = nI (inT T 0 2)
    rw [inT_ne (by decide)]; exact (fq 16 11 (by omega) (by omega)).trans a3
  · have hl : l < inT T 0 0 := hl
    rw [inT_at] at hl
    show up2 (up2 (up2 σ.1 20 (T.1 0) v) 21 (T.1 0) 0) 16 9 (nI (T.1 0) + 1) 20 l = up2 (up2 T.2 0 (T.1 0) v) 1 (T.1 0) 0 0 l ∧ up2 (up2 (up2 σ.1 20 (T.1 0) v) 21 (T.1 0) 0) 16 9 (nI (T.1 0) + 1) 21 l = up2 (up2 T.2 0 (T.1 0) v) 1 (T.1 0) 0 1 l
    by_cases z : l = T.1 0
    · subst z
      refine ⟨?_, ?_⟩
      · rw [up2_ne (by omega), up2_ne (by omega), up2_at, up2_ne (by omega), up2_at]
      · rw [up2_ne (by omega), up2_at, up2_at]
    · obtain ⟨b1, b2⟩ := a4 l (by omega)
      rw [fq 20 l (by omega) (by omega), fq 21 l (by omega) (by omega), up2_ne (by omega), up2_ne (by omega), up2_ne (by omega), up2_ne (by omega)]
      exact ⟨b1, b2⟩
  · have hp : p < inT T 0 1 := hp
    rw [inT_ne (by decide)] at hp
    show _ = up2 (up2 T.2 0 (T.1 0) v) 1 (T.1 0) 0 2 p
    rw [up2_ne (by omega), up2_ne (by omega)]
    exact (fq 22 p (by omega) (by omega)).trans (a5 p hp)
  · have hc : c < inT T 0 2 := hc
    rw [inT_ne (by decide)] at hc
    show _ = up2 (up2 T.2 0 (T.1 0) v) 1 (T.1 0) 0 3 c ∧ _ = up2 (up2 T.2 0 (T.1 0) v) 1 (T.1 0) 0 4 c
    rw [up2_ne (by omega), up2_ne (by omega), up2_ne (by omega), up2_ne (by omega)]
    exact ⟨(fq 23 c (by omega) (by omega)).trans (a6 c hc).1, (fq 24 c (by omega) (by omega)).trans (a6 c hc).2⟩
  · show _ = nI (inT T 0 3)
    rw [inT_ne (by decide)]; exact (fq 25 2 (by omega) (by omega)).trans a7
  · have hk : k < inT T 0 3 := hk
    rw [inT_ne (by decide)] at hk
    show _ = up2 (up2 T.2 0 (T.1 0) v) 1 (T.1 0) 0 5 k
    rw [up2_ne (by omega), up2_ne (by omega)]
    exact (fq 26 k (by omega) (by omega)).trans (a8 k hk)
  · exact (fq 15 2 (by omega) (by omega)).trans a9
  · show up2 σ.2.1 17 (T.1 0) (p32 w) (17 + r) i = p32 (inW T N 0 w r i)
    have hi : i < inT T 0 r := hi
    rcases inT_c hi with ⟨rfl, rfl⟩ | ⟨q1, q2⟩
    · rw [inW_at]; exact up2L_at
    · rw [inW_ne q2, fl _ _ (by omega)]
      exact a10 r hr i q1
theorem m_li {T : TW} {N : NM} {b : Bool} {w : List Nat} {v : Int32} {σ τ : MM} (h5 : T.1 0 < 5) (hD : DM T N b σ) (h : HdM T N 0 w σ τ) : DM (liT T v) (inW T N 0 w) b (up2 τ.1 255 (44 + 2 * T.1 0) v, τ.2) := by
  obtain ⟨⟨⟨a1, a2, a3⟩, a4, a5, a6, a7⟩, b1, c1⟩ := hD
  obtain ⟨h1, h2, h3, h4, h5', h6⟩ := h
  have hq : eqr (fun b j => b = 255 ∧ j = 44 + 2 * T.1 0) τ (up2 τ.1 255 (44 + 2 * T.1 0) v, τ.2) := eqr_up (by omega)
  have fq : ∀ j, j ≠ 44 + 2 * T.1 0 → j ≠ 40 → up2 τ.1 255 (44 + 2 * T.1 0) v 255 j = σ.1 255 j := fun j n1 n2 => (up2_ne (by omega)).trans (h2 j (by omega))
  refine ⟨⟨⟨?_, ?_, ?_⟩, fun l hl => ?_, fun p hp => ?_, fun c hc => ?_, fun l k1 k2 => ?_⟩, DMl_e (σ := σ) (fq 43 (by omega) (by omega)) (by exact (mm_ne (by omega)).trans h4) (fun j => by exact (mm_ne (by omega)).trans (h5' j)) (fun j => by exact (mm_ne (by omega)).trans (h6 j)) ?_, MNb_a hq (by omega) (fun j => by omega) (h3 (liT T v) (fun k _ => rfl))⟩
  · show _ = nI (inT T 0 0)
    rw [inT_at]; exact (up2_ne (by omega)).trans h1
  · show _ = nI (inT T 0 1)
    rw [inT_ne (by decide)]; exact (fq 41 (by omega) (by omega)).trans a2
  · show _ = nI (inT T 0 2)
    rw [inT_ne (by decide)]; exact (fq 42 (by omega) (by omega)).trans a3
  · have hl : l < inT T 0 0 := hl
    rw [inT_at] at hl
    show up2 τ.1 255 (44 + 2 * T.1 0) v 255 (44 + 2 * l) = up2 (up2 T.2 0 (T.1 0) v) 1 (T.1 0) 0 0 l ∧ up2 τ.1 255 (44 + 2 * T.1 0) v 255 (45 + 2 * l) = up2 (up2 T.2 0 (T.1 0) v) 1 (T.1 0) 0 1 l
    by_cases z : l = T.1 0
    · subst z
      refine ⟨?_, ?_⟩
      · rw [up2_at, up2_ne (by omega), up2_at]
      · rw [fq _ (by omega) (by omega), up2_at]; exact a7 _ (Nat.le_refl _) h5
    · obtain ⟨d1, d2⟩ := a4 l (by omega)
      rw [fq _ (by omega) (by omega), fq _ (by omega) (by omega), up2_ne (by omega), up2_ne (by omega), up2_ne (by omega), up2_ne (by omega)]
      exact ⟨d1, d2⟩
  · have hp : p < inT T 0 1 := hp
    rw [inT_ne (by decide)] at hp
    show _ = up2 (up2 T.2 0 (T.1 0) v) 1 (T.1 0) 0 2 p
    rw [up2_ne (by omega), up2_ne (by omega)]
    exact (fq _ (by omega) (by omega)).trans (a5 p hp)
  · have hc : c < inT T 0 2 := hc
    rw [inT_ne (by decide)] at hc
    show _ = up2 (up2 T.2 0 (T.1 0) v) 1 (T.1 0) 0 3 c ∧ _ = up2 (up2 T.2 0 (T.1 0) v) 1 (T.1 0) 0 4 c
    rw [up2_ne (by omega), up2_ne (by omega), up2_ne (by omega), up2_ne (by omega)]
    exact ⟨(fq _ (by omega) (by omega)).trans (a6 c hc).1, (fq _ (by omega) (by omega)).trans (a6 c hc).2⟩
  · have k1 : inT T 0 0 ≤ l := k1
    rw [inT_at] at k1
    exact (fq _ (by omega) (by omega)).trans (a7 l (by omega) k2)
  · have e3 : (liT T v).1 3 = T.1 3 := inT_ne (T := T) (r := 0) (k := 3) (by decide)
    have e5 : (liT T v).2 5 = T.2 5 := liT_row (by decide)
    unfold DMl
    rw [e3, e5]
    exact b1
/-- full or not -/
theorem c_full {T : TW} {β : Type} {a j mx : Nat} {r : Nat} {K : Int32 → PP β} {P : β → MM → Prop} {σ : MM} (e : σ.1 a j = nI (T.1 r)) (hle : T.1 r ≤ mx) (hm : mx < 100) (h : wp (K (b2i (decide (T.1 r = mx)))) σ P) : wp (bd (gI a j) (fun x1 => bd (if x1 < nI mx then pu (0 : Int32) else pu (1 : Int32) : PP (Int32)) K)) σ P := by
  refine ws_gv e ?_
  by_cases z : T.1 r = mx
  · rw [if_neg (show ¬ nI (T.1 r) < nI mx from fun q => by have := (nI_ltI (by omega) (by omega)).mp q; omega)]
    rw [decide_eq_true z] at h
    exact wp_eq (show pu (1 : Int32) σ = some (_, σ) from rfl) h
  · rw [if_pos (nIlt (by omega) (by omega))]
    rw [decide_eq_false z] at h
    exact wp_eq (show pu (0 : Int32) σ = some (_, σ) from rfl) h
theorem ps_line {Q : TA} {m : Nat} (vQ : VTa Q) (hm : m ≤ 1000) (hend : yT Q (tp Q m) = 0) : PS Q m 0 (FX8_readLine 15) (FX12_readLine 249) := by
  intro t T N b hV ht hk
  obtain ⟨R, hR⟩ := hd_ex Q T N (decide (T.1 0 = 5)) t
  obtain ⟨r1, r2, r3, r4⟩ := hd_E vQ hR
  have r5 := hd_m hend ht hR
  have h05 := hV.1.1.1
  have q1 := st1_m (k := 1) (b := wB Q 1 R.1) vQ hend (by decide) (fun h => wB_y h) r5 r1
  obtain ⟨R1, hR1⟩ : ∃ R1, R1 = st1 Q (wB Q 1 R.1) 1 R.1 R.2 := ⟨_, rfl⟩
  rw [← hR1] at q1
  obtain ⟨q11, q12, q13, q14⟩ := q1
  have q2 := stN_m (lo := 1) (hi := 9) vQ hend q11 q13
  obtain ⟨R2, hR2⟩ : ∃ R2, R2 = stN Q 1 9 R1.1 R1.2 := ⟨_, rfl⟩
  rw [← hR2] at q2
  obtain ⟨q21, q22, q23, q24⟩ := q2
  have q3 := st1_m (k := 1) (b := gB Q 59 R2.1) vQ hend (by decide) (fun h => gB_y h) q21 q23
  obtain ⟨R3, hR3⟩ : ∃ R3, R3 = st1 Q (gB Q 59 R2.1) 1 R2.1 R2.2 := ⟨_, rfl⟩
  rw [← hR3] at q3
  obtain ⟨q31, q32, q33, q34⟩ := q3
  have live : R3.2 = 0 → R2.2 = 0 ∧ R1.2 = 0 ∧ R.2 = 0 ∧ T.1 0 < 5 := by
    intro z
    obtain ⟨z1, -, -⟩ := q34 z
    obtain ⟨z2, -, -⟩ := q24 z1
    obtain ⟨z3, -, -⟩ := q14 z2
    have := (r4 z3).1
    have : ¬ T.1 0 = 5 := by simpa using this
    exact ⟨z1, z2, z3, by omega⟩
  refine ⟨R3.1, R3.2, liT T (nI (nT Q (tp Q R1.1))), inW T N 0 (wT Q (tp Q (t + 1))), b, ⟨q33, by omega, q31, fun z => ?_⟩, fun σ hS hD => ?_, fun σ hS hD => ?_⟩
  · obtain ⟨z1, z2, z3, z4⟩ := live z
    obtain ⟨-, w1, w2, w3, -⟩ := r4 z3
    obtain ⟨-, v1, v2⟩ := q24 z1
    exact ⟨by omega, DV_li hV z4 ⟨v1, v2⟩ w1 w2⟩
  · unfold FX8_readLine
    rw [r15_0, r15_1]
    refine c_full (r := 0) (mx := 5) hD.1.1 h05 (by decide) (c_head vQ hV hS hD hR (fun x τ1 s1 f1 hx => ?_))
    refine wp_bd (c_expectWord vQ r1 (1 : Fin 23) s1) ?_
    rintro _ τ2 ⟨s2, f2⟩
    rw [show (1 : Fin 23).val = 1 from rfl, ← hR1] at s2
    refine wp_bd (c_expectNumber (lo := 1) (hi := 9) vQ q13 (by decide) (by decide) s2) ?_
    rintro v τ3 ⟨s3, hv, f3⟩
    rw [← hR2] at s3 hv
    refine wp_bd (c_expectSign (c := 59) vQ q23 (by decide) (by decide) (by decide) (by decide) s3) ?_
    rintro _ τ4 ⟨s4, f4⟩
    rw [← hR3] at s4
    refine ws_gv s4.2.1 ?_
    have f := FT_tr f1 (FT_tr f2 (FT_tr f3 f4))
    by_cases z : R3.2 = 0
    · obtain ⟨z1, z2, z3, z4⟩ := live z
      rw [if_pos (show nI R3.2 = 0 by rw [z]; rfl), hx z3, hv z1]
      rw [z] at s4
      refine bd_asw (wp_bd (c_addLine z4 s4 (DC_t f hD)) (fun _ τ5 q => ?_))
      refine wp_eq (show pu () τ5 = some ((), τ5) from rfl) (wp_pu ?_)
      rw [z]
      exact ⟨q.1, fun _ => q.2.1, FDc_tr (FDc_t f) q.2.2⟩
    · rw [if_neg (nI_ne0 (by omega) (by omega))]
      exact wp_eq (show pu () τ4 = some ((), τ4) from rfl) (wp_pu ⟨s4, fun h => absurd h z, FDc_t f⟩)
  · unfold FX12_readLine FX12_takeAfter
    rw [r249_10]
    refine bd_asw (wp_eq (m_isWord (k := 0) vQ (by decide) (by decide) hS) ?_)
    rw [hk, if_neg (show ¬ b2i (decide ((0 : Nat) = 0) && true) = 0 by decide)]
    refine bd_asw (bd_asw (ws_a (i := 40) (by decide) (by decide) hD.1.1.1 ?_))
    rw [lt_eq]
    refine bd_asw (wp_bd (m_readName (r := 0) (mx := 5) vQ hV (Or.inl ⟨rfl, rfl⟩) rfl ht hS hD hR) ?_)
    rintro _ τ1 ⟨s1, f1, g1⟩
    refine bd_asw (bd_asw (wp_bd (m_takeWord (k := 1) vQ r1 (by decide) s1) ?_))
    rintro _ τ2 ⟨s2, f2⟩
    rw [← hR1] at s2
    refine bd_asw (wp_bd (m_takeNumber (lo := 1) (hi := 9) vQ q13 (by decide) (by decide) s2) ?_)
    rintro v τ3 ⟨s3, hv, f3⟩
    rw [← hR2] at s3 hv
    refine wp_eq (show pu v τ3 = some (_, τ3) from rfl) (bd_asw (ws_gv s3.2.2.2.2 ?_))
    have f := FDm_tr f1 (FDm_a (eqr_tr f2 f3))
    by_cases z : R2.2 = 0
    · obtain ⟨z2, v1, v2⟩ := q24 z
      obtain ⟨z3, -, -⟩ := q14 z2
      have z4 : T.1 0 < 5 := by
        have := (r4 z3).1
        have : ¬ T.1 0 = 5 := by simpa using this
        omega
      rw [if_pos (show nI R2.2 = 0 by rw [z]; rfl), hv z]
      rw [show (44 : Int32) + 2 * nI (T.1 0) = nI (44 + 2 * T.1 0) by rw [show (2 : Int32) = nI 2 from rfl, pk_mul]; exact nI_add 44 _]
      refine bd_asw (bd_asw (ws_u (by omega) (by decide) ?_))
      refine wp_eq (show pu () _ = some ((), _) from rfl) (wp_eq (show pu () _ = some ((), _) from rfl) (wp_eq (show pu () _ = some ((), _) from rfl) ?_))
      have hM := m_li (v := nI (nT Q (tp Q R1.1))) z4 hD (HdM_a (eqr_tr f2 f3) (g1 z3))
      have hq : eqr (fun b j => b = 255 ∧ 40 ≤ j) τ3 (up2 τ3.1 255 (44 + 2 * T.1 0) (nI (nT Q (tp Q R1.1))), τ3.2) := eqr_up (by omega)
      have s4 : SM Q m R2.1 R2.2 (up2 τ3.1 255 (44 + 2 * T.1 0) (nI (nT Q (tp Q R1.1))), τ3.2) := SM_r s3 hq (fun b j z => by omega) s3.2.2.1 ((hq.1 _ _ (by omega)).trans s3.2.2.2.1) ((hq.1 _ _ (by omega)).trans s3.2.2.2.2)
      refine wp_mono (m_takeSign vQ q23 s4 59) (fun _ τ5 q => ?_)
      rw [← hR3] at q
      exact ⟨q.1, fun _ => DM_a q.2 hM, FDm_tr f (FDm_tr (FDm_r hq (fun b j z => by unfold RDm; omega)) (FDm_a q.2))⟩
    · rw [if_neg (nI_ne0 (by omega) (by omega))]
      refine bd_asw (wp_eq (show pu () τ3 = some ((), τ3) from rfl) (wp_eq (show pu () τ3 = some ((), τ3) from rfl) (wp_eq (show pu () τ3 = some ((), τ3) from rfl) ?_)))
      refine wp_mono (m_takeSign vQ q23 s3 59) (fun _ τ5 q => ?_)
      rw [← hR3] at q
      exact ⟨q.1, fun h => absurd (live h).1 z, FDm_tr f (FDm_a q.2)⟩
