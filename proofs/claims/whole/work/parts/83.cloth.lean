/-! ===== a cloth told ===== -/
def clT (T : TW) (k v : Int32) : TW := (inT T 2, up2 (up2 T.2 3 (T.1 2) k) 4 (T.1 2) v)
theorem clT_row {T : TW} {u v : Int32} {k : Nat} (h : k ≠ 3 ∧ k ≠ 4) : (clT T u v).2 k = T.2 k := by
  show up2 (up2 T.2 3 (T.1 2) u) 4 (T.1 2) v k = T.2 k
  rw [up2_rw (by omega), up2_rw (by omega)]
theorem clT_n {T : TW} {u v : Int32} {k : Nat} (h : k ≠ 2) : (clT T u v).1 k = T.1 k := inT_ne (T := T) (r := 2) h
theorem clT_2 {T : TW} {u v : Int32} : (clT T u v).1 2 = T.1 2 + 1 := inT_at (T := T) (r := 2)
theorem DV_cl {T : TW} {N : NM} {b : Bool} {w : List Nat} {k v : Nat} (hV : DV T N b) (h6 : T.1 2 < 6) (hk : k < 4) (hv : 1 ≤ v ∧ v ≤ 20) (hw : isW w) (hn : ¬ tld T N w) : DV (clT T (nI k) (nI v)) (inW T N 2 w) b := by
  obtain ⟨⟨⟨a1, a2, a3, a4⟩, a5, a6, a7⟩, h2, h3, h4⟩ := hV
  have r5 : (clT T (nI k) (nI v)).2 5 = T.2 5 := clT_row (by decide)
  have n3 : (clT T (nI k) (nI v)).1 3 = T.1 3 := clT_n (by decide)
  refine ⟨⟨⟨?_, ?_, ?_, ?_⟩, ?_, fun c hc => ?_, fun l hl => ?_⟩, VNa_in (by decide) (Or.inl rfl) hw hn h2, fun q => ?_, fun l hl => ?_⟩
  · rw [clT_n (by decide)]; exact a1
  · rw [clT_n (by decide)]; exact a2
  · rw [clT_2]; omega
  · rw [n3]; exact a4
  · rw [r5, n3]; exact a5
  · rw [clT_2] at hc
    show (∃ q, q < 4 ∧ up2 (up2 T.2 3 (T.1 2) (nI k)) 4 (T.1 2) (nI v) 3 c = nI q) ∧ ∃ w, 1 ≤ w ∧ w ≤ 20 ∧ up2 (up2 T.2 3 (T.1 2) (nI k)) 4 (T.1 2) (nI v) 4 c = nI w
    rw [up2_ne (show ¬ (3 = 4 ∧ c = T.1 2) by omega)]
    by_cases z : c = T.1 2
    · subst z
      exact ⟨⟨k, hk, up2_at⟩, v, hv.1, hv.2, up2_at⟩
    · rw [up2_ne (by omega), up2_ne (by omega), up2_ne (by omega)]
      exact a6 c (by omega)
  · rw [clT_n (by decide)] at hl
    rw [clT_row (by decide)]
    exact a7 l hl
  · rw [r5, n3]; exact h3 q
  · rw [clT_n (by decide)] at hl
    rw [clT_row (by decide)]
    exact h4 l hl
theorem c_addCloth {Q : TA} {t : Nat} {T : TW} {N : NM} {b : Bool} {w : List Nat} {u v : Int32} {σ : MM} (h6 : T.1 2 < 6) (hS : SC Q t 0 σ) (hD : DC T N b σ) : wp (FX7_addCloth 16 (p32 w) u v) σ (fun _ τ => SC Q t 0 τ ∧ DC (clT T u v) (inW T N 2 w) b τ ∧ FDc σ τ) := by
  obtain ⟨⟨a1, a2, a3⟩, a4, a5, a6, ⟨a7, a8⟩, a9, a10⟩ := hD
  unfold FX7_addCloth
  rw [r16_2, r16_6, r16_7]
  refine ws_gv a3 ?_
  rw [if_neg (show ¬ (6 : Int32) ≤ nI (T.1 2) from nle_n (b := 6) h6 (by decide))]
  refine bd_asw (ws_gv a3 (bd_asw (ws_uL h6 (by decide) (bd_asw (ws_gv (x := nI (T.1 2)) a3 (bd_asw (ws_u h6 (by decide) (bd_asw (ws_gv (x := nI (T.1 2)) ((mm_ne (by omega)).trans a3) (bd_asw (ws_u h6 (by decide) (bd_asw (ws_gv (x := nI (T.1 2)) ((mm_ne (by omega)).trans ((mm_ne (by omega)).trans a3)) (bd_asw (ws_s ?_)))))))))))))))
  refine wp_eq (show pu () _ = some ((), _) from rfl) (wp_pu ?_)
  have fq : ∀ b j, ¬ ((b = 23 ∨ b = 24) ∧ j = T.1 2) → ¬ (b = 16 ∧ j = 11) → up2 (up2 (up2 σ.1 23 (T.1 2) u) 24 (T.1 2) v) 16 11 (nI (T.1 2) + 1) b j = σ.1 b j := fun b j n1 n2 => by rw [up2_ne (by omega), up2_ne (by omega), up2_ne (by omega)]
  have fl : ∀ b j, ¬ (b = 19 ∧ j = T.1 2) → up2 σ.2.1 19 (T.1 2) (p32 w) b j = σ.2.1 b j := fun b j n => up2L_ne n
  refine ⟨SC_f hS (fun j => fq 1 j (by omega) (by omega)) (fun j => fq 2 j (by omega) (by omega)) (fl 1 4 (by omega)) rfl, ⟨⟨?_, ?_, ?_⟩, fun l hl => ?_, fun p hp => ?_, fun c hc => ?_, ⟨?_, fun k hk => ?_⟩, ?_, fun r hr i hi => ?_⟩, fun b j n => fq b j (by omega) (by omega), fun b j n n2 => fl b j (by omega)⟩
  · rw [clT_n (by decide)]; exact (fq 16 9 (by omega) (by omega)).trans a1
  · rw [clT_n (by decide)]; exact (fq 16 10 (by omega) (by omega)).trans a2
  · rw [clT_2]; exact mm_at.trans (nI_1 _)
  · rw [clT_n (by decide)] at hl
    rw [clT_row (by decide), clT_row (by decide)]
    exact ⟨(fq 20 l (by omega) (by omega)).trans (a4 l hl).1, (fq 21 l (by omega) (by omega)).trans (a4 l hl).2⟩
  · rw [clT_n (by decide)] at hp
    rw [clT_row (by decide)]
    exact (fq 22 p (by omega) (by omega)).trans (a5 p hp)
  · rw [clT_2] at hc
    show up2 (up2 (up2 σ.1 23 (T.1 2) u) 24 (T.1 2) v) 16 11 (nI (T.1 2) + 1) 23 c = up2 (up2 T.2 3 (T.1 2) u) 4 (T.1 2) v 3 c ∧ up2 (up2 (up2 σ.1 23 (T.1 2) u) 24 (T.1 2) v) 16 11 (nI (T.1 2) + 1) 24 c = up2 (up2 T.2 3 (T.1 2) u) 4 (T.1 2) v 4 c
    by_cases z : c = T.1 2
    · subst z
      refine ⟨?_, ?_⟩
      · rw [up2_ne (by omega), up2_ne (by omega), up2_at, up2_ne (by omega), up2_at]
      · rw [up2_ne (by omega), up2_at, up2_at]
    · obtain ⟨b1, b2⟩ := a6 c (by omega)
      rw [fq 23 c (by omega) (by omega), fq 24 c (by omega) (by omega), up2_ne (by omega), up2_ne (by omega), up2_ne (by omega), up2_ne (by omega)]
      exact ⟨b1, b2⟩
  · rw [clT_n (by decide)]; exact (fq 25 2 (by omega) (by omega)).trans a7
  · rw [clT_n (by decide)] at hk
    rw [clT_row (by decide)]
    exact (fq 26 k (by omega) (by omega)).trans (a8 k hk)
  · exact (fq 15 2 (by omega) (by omega)).trans a9
  · show up2 σ.2.1 19 (T.1 2) (p32 w) (17 + r) i = p32 (inW T N 2 w r i)
    have hi : i < inT T 2 r := hi
    rcases inT_c hi with ⟨rfl, rfl⟩ | ⟨q1, q2⟩
    · rw [inW_at]; exact up2L_at
    · rw [inW_ne q2, fl _ _ (by omega)]
      exact a10 r hr i q1
theorem m_cl {T : TW} {N : NM} {b : Bool} {w : List Nat} {u v : Int32} {σ τ : MM} (h05 : T.1 0 ≤ 5) (h14 : T.1 1 ≤ 4) (h6 : T.1 2 < 6) (hD : DM T N b σ) (h : HdM T N 2 w σ τ) : DM (clT T u v) (inW T N 2 w) b (up2 (up2 τ.1 255 (58 + 2 * T.1 2) u) 255 (59 + 2 * T.1 2) v, τ.2) := by
  obtain ⟨⟨⟨a1, a2, a3⟩, a4, a5, a6, a7⟩, b1, c1⟩ := hD
  obtain ⟨h1, h2, h3, h4, h5', h6'⟩ := h
  have hq : eqr (fun b j => b = 255 ∧ (j = 58 + 2 * T.1 2 ∨ j = 59 + 2 * T.1 2)) τ (up2 (up2 τ.1 255 (58 + 2 * T.1 2) u) 255 (59 + 2 * T.1 2) v, τ.2) := eqr_tr (eqr_up (by omega)) (eqr_up (σ := (up2 τ.1 255 (58 + 2 * T.1 2) u, τ.2)) (by omega))
  have fq : ∀ j, j ≠ 58 + 2 * T.1 2 → j ≠ 59 + 2 * T.1 2 → j ≠ 42 → up2 (up2 τ.1 255 (58 + 2 * T.1 2) u) 255 (59 + 2 * T.1 2) v 255 j = σ.1 255 j := fun j n1 n2 n3 => (up2_ne (by omega)).trans ((up2_ne (by omega)).trans (h2 j (by omega)))
  have fx : ∀ b j, b ≠ 255 → up2 (up2 τ.1 255 (58 + 2 * T.1 2) u) 255 (59 + 2 * T.1 2) v b j = τ.1 b j := fun b j n => (up2_ne (by omega)).trans (up2_ne (by omega))
  refine ⟨⟨⟨?_, ?_, ?_⟩, fun l hl => ?_, fun p hp => ?_, fun c hc => ?_, fun l k1 k2 => ?_⟩, DMl_e (σ := σ) (fq 43 (by omega) (by omega) (by omega)) ((fx 249 13 (by decide)).trans h4) (fun j => (fx 256 j (by decide)).trans (h5' j)) (fun j => (fx 257 j (by decide)).trans (h6' j)) ?_, MNb_a hq (by omega) (fun j => by omega) (h3 (clT T u v) (fun k _ => rfl))⟩
  · rw [clT_n (by decide)]; exact (fq 40 (by omega) (by omega) (by omega)).trans a1
  · rw [clT_n (by decide)]; exact (fq 41 (by omega) (by omega) (by omega)).trans a2
  · rw [clT_2]; exact (mm_ne (by omega)).trans ((up2_ne (by omega)).trans h1)
  · rw [clT_n (by decide)] at hl
    rw [clT_row (by decide), clT_row (by decide)]
    exact ⟨(fq _ (by omega) (by omega) (by omega)).trans (a4 l hl).1, (fq _ (by omega) (by omega) (by omega)).trans (a4 l hl).2⟩
  · rw [clT_n (by decide)] at hp
    rw [clT_row (by decide)]
    exact (fq _ (by omega) (by omega) (by omega)).trans (a5 p hp)
  · rw [clT_2] at hc
    show up2 (up2 τ.1 255 (58 + 2 * T.1 2) u) 255 (59 + 2 * T.1 2) v 255 (58 + 2 * c) = up2 (up2 T.2 3 (T.1 2) u) 4 (T.1 2) v 3 c ∧ up2 (up2 τ.1 255 (58 + 2 * T.1 2) u) 255 (59 + 2 * T.1 2) v 255 (59 + 2 * c) = up2 (up2 T.2 3 (T.1 2) u) 4 (T.1 2) v 4 c
    by_cases z : c = T.1 2
    · subst z
      refine ⟨?_, ?_⟩
      · rw [up2_ne (by omega), up2_at, up2_ne (by omega), up2_at]
      · rw [up2_at, up2_at]
    · obtain ⟨d1, d2⟩ := a6 c (by omega)
      rw [fq _ (by omega) (by omega) (by omega), fq _ (by omega) (by omega) (by omega), up2_ne (by omega), up2_ne (by omega), up2_ne (by omega), up2_ne (by omega)]
      exact ⟨d1, d2⟩
  · rw [clT_n (by decide)] at k1
    exact (fq _ (by omega) (by omega) (by omega)).trans (a7 l k1 k2)
  · unfold DMl
    rw [clT_n (by decide), clT_row (by decide)]
    exact b1
/-- a word of four: which, and on -/
def kw (Q : TA) (f t E : Nat) (R : Option Nat × Nat × Nat) : Prop := (¬ E = 0 ∧ R = (none, t, E)) ∨ (E = 0 ∧ (∀ j, j < 4 → wB Q (f + j) t = false) ∧ R = (none, t, fc Q 1 t)) ∨ ∃ j, j < 4 ∧ E = 0 ∧ wB Q (f + j) t = true ∧ R = (some j, t + 1, 0)
theorem kw_ex (Q : TA) (f t E : Nat) : ∃ R, kw Q f t E R := by
  by_cases e : E = 0
  · by_cases z : ∃ j, j < 4 ∧ wB Q (f + j) t = true
    · obtain ⟨j, h1, h2⟩ := z
      exact ⟨_, Or.inr (Or.inr ⟨j, h1, e, h2, rfl⟩)⟩
    · refine ⟨_, Or.inr (Or.inl ⟨e, fun j hj => ?_, rfl⟩)⟩
      cases q : wB Q (f + j) t with
      | false => rfl
      | true => exact absurd ⟨j, hj, q⟩ z
  · exact ⟨_, Or.inl ⟨e, rfl⟩⟩
theorem kw_m {Q : TA} {f t E m : Nat} {R : Option Nat × Nat × Nat} (vQ : VTa Q) (hend : yT Q (tp Q m) = 0) (ht : t ≤ m) (hE : E < 20000) (h : kw Q f t E R) : R.2.1 ≤ m ∧ t ≤ R.2.1 ∧ R.2.2 < 20000 ∧ (R.2.2 = 0 → E = 0 ∧ ∃ j, j < 4 ∧ R.1 = some j) := by
  rcases h with ⟨h, rfl⟩ | ⟨h, -, rfl⟩ | ⟨j, hj, h, hw, rfl⟩
  · exact ⟨ht, Nat.le_refl t, hE, fun q => absurd q h⟩
  · exact ⟨ht, Nat.le_refl t, fc_lt vQ (by decide), fun q => absurd q (fc_ne (by decide))⟩
  · exact ⟨t_ltm hend ht (wB_y hw), Nat.le_succ t, by show 0 < 20000; decide, fun _ => ⟨h, j, hj, rfl⟩⟩
theorem m_takeOne {Q : TA} {m t E f : Nat} {R : Option Nat × Nat × Nat} {σ : MM} (vQ : VTa Q) (hf : f + 4 ≤ 23) (hE : E < 20000) (hS : SM Q m t E σ) (hR : kw Q f t E R) : wp (FX12_takeOne 249 (nI f) 4) σ (fun x τ => x = oI R.1 0 ∧ SM Q m R.2.1 R.2.2 τ ∧ eqr Rat σ τ) := by
  unfold FX12_takeOne
  refine ws_gv hS.2.2.2.2 ?_
  have fin : ∀ (E2 : Nat) (v3 : Int32) (τ : MM), E2 < 20000 → SM Q m t E2 τ → eqr Rat σ τ → (E2 = 0 → ¬ yT Q (tp Q t) = 0) → R.2 = (nx t E2, E2) → oI R.1 0 = (if E2 = 0 then v3 else 0) → wp (bd (gI 249 7) (fun x7 => bd (gI 249 8) (fun x8 => bd (if x8 ≤ 0 then pu (1 : Int32) else pu (0 : Int32) : PP (Int32)) (fun (v9 : Int32) => bd (sI 249 7 (x7 + v9)) (fun (_ : Unit) => bd (gI 249 8) (fun x10 => bd (if x10 ≤ 0 then pu v3 else pu (0 : Int32) : PP (Int32)) (fun (v11 : Int32) => pu v11))))))) τ (fun x τ => x = oI R.1 0 ∧ SM Q m R.2.1 R.2.2 τ ∧ eqr Rat σ τ) := by
    intro E2 v3 τ hl s fr hy hR2 ho
    refine m_on hl s hy (fun τ2 s2 f2 => ?_)
    refine ws_gv s2.2.2.2.2 ?_
    by_cases z : E2 = 0
    · subst z
      rw [if_pos (show nI 0 ≤ 0 by decide)]
      refine wp_eq (show pu v3 τ2 = some (_, τ2) from rfl) (wp_pu ?_)
      rw [hR2, ho]
      exact ⟨rfl, s2, eqr_tr fr f2⟩
    · rw [if_neg (nI_nle (by omega) (by omega))]
      refine wp_eq (show pu (0 : Int32) τ2 = some (_, τ2) from rfl) (wp_pu ?_)
      rw [hR2, ho, if_neg z]
      exact ⟨rfl, s2, eqr_tr fr f2⟩
  rcases hR with ⟨h, rfl⟩ | ⟨rfl, hw, rfl⟩ | ⟨j, hj, rfl, hw, rfl⟩
  · rw [if_neg (nI_nle (by omega) (by omega))]
    refine wp_eq (show pu (-1 : Int32) σ = some (_, σ) from rfl) (ws_gv hS.2.2.2.2 ?_)
    rw [if_neg (nI_ne0 (by omega) (by omega))]
    exact wp_eq (show pu () σ = some ((), σ) from rfl) (fin E _ σ hE hS eqr_rf (fun q => absurd q h) (by unfold nx; rw [if_neg h]) (by rw [if_neg h]; rfl))
  · rw [if_pos (show nI 0 ≤ 0 by decide)]
    refine bd_asw (wp_eq (m_wordHere (f := f) (n := 4) vQ hE hf hS) ?_)
    rw [wh_none (by decide) hw]
    refine wp_eq (show pu (-1 : Int32) σ = some (_, σ) from rfl) (ws_gv hS.2.2.2.2 ?_)
    rw [if_pos (show nI 0 = 0 from rfl), if_neg (by decide)]
    refine bd_asw (wp_bd (m_wrong (k := 1) vQ hE hS) (fun _ τ q => ?_))
    have n1 := fc_ne (Q := Q) (k := 1) (t := t) (by decide)
    exact wp_eq (show pu () τ = some ((), τ) from rfl) (fin (fc Q 1 t) _ τ (fc_lt vQ (by decide)) q.1 q.2 (fun z => absurd z n1) (by unfold nx; rw [if_neg n1]) (by rw [if_neg n1]; rfl))
  · rw [if_pos (show nI 0 ≤ 0 by decide)]
    refine bd_asw (wp_eq (m_wordHere (f := f) (n := 4) vQ hE hf hS) ?_)
    rw [wh_some (by decide) hf hj hw]
    refine wp_eq (show pu (nI j) σ = some (_, σ) from rfl) (ws_gv hS.2.2.2.2 ?_)
    rw [if_pos (show nI 0 = 0 from rfl), if_pos (nI_pos' (by omega))]
    exact wp_eq (show pu () σ = some ((), σ) from rfl) (fin 0 _ σ (by decide) hS eqr_rf (fun _ => wB_y hw) rfl rfl)
theorem wva_k : ∀ j, j < 4 → wva.getD (12 + j) 0 = nI j := by decide +kernel
theorem ps_cloth {Q : TA} {m : Nat} (vQ : VTa Q) (hm : m ≤ 1000) (hend : yT Q (tp Q m) = 0) : PS Q m 4 (FX8_readCloth 15) (FX12_readLine 249) := by
  intro t T N b hV ht hk
  obtain ⟨R, hR⟩ := hd_ex Q T N (decide (T.1 2 = 6)) t
  obtain ⟨r1, r2, r3, r4⟩ := hd_E vQ hR
  have r5 := hd_m hend ht hR
  have h26 := hV.1.1.2.2.1
  obtain ⟨W, hW⟩ := kw_ex Q 12 R.1 R.2
  obtain ⟨w1, w2, w3, w4⟩ := kw_m vQ hend r5 r1 hW
  have q1 := st1_m (k := 1) (b := wB Q 5 W.2.1) vQ hend (by decide) (fun h => wB_y h) w1 w3
  obtain ⟨R1, hR1⟩ : ∃ R1, R1 = st1 Q (wB Q 5 W.2.1) 1 W.2.1 W.2.2 := ⟨_, rfl⟩
  rw [← hR1] at q1
  obtain ⟨q11, q12, q13, q14⟩ := q1
  have q2 := stN_m (lo := 1) (hi := 20) vQ hend q11 q13
  obtain ⟨R2, hR2⟩ : ∃ R2, R2 = stN Q 1 20 R1.1 R1.2 := ⟨_, rfl⟩
  rw [← hR2] at q2
  obtain ⟨q21, q22, q23, q24⟩ := q2
  have q3 := st1_m (k := 1) (b := gB Q 59 R2.1) vQ hend (by decide) (fun h => gB_y h) q21 q23
  obtain ⟨R3, hR3⟩ : ∃ R3, R3 = st1 Q (gB Q 59 R2.1) 1 R2.1 R2.2 := ⟨_, rfl⟩
  rw [← hR3] at q3
  obtain ⟨q31, q32, q33, q34⟩ := q3
  have dead : ¬ W.2.2 = 0 → R3 = W.2 := by
    intro n
    have e1 : R1 = W.2 := by rw [hR1, st1_d n]
    have e2 : R2 = W.2 := by rw [hR2, e1]; unfold stN; rw [if_neg n]
    rw [hR3, e2, st1_d n]
  have live2 : R2.2 = 0 → R1.2 = 0 ∧ W.2.2 = 0 ∧ R.2 = 0 ∧ T.1 2 < 6 ∧ ∃ j, j < 4 ∧ W.1 = some j := by
    intro z1
    obtain ⟨z2, -, -⟩ := q24 z1
    obtain ⟨z3, -, -⟩ := q14 z2
    obtain ⟨z4, z5⟩ := w4 z3
    have := (r4 z4).1
    have : ¬ T.1 2 = 6 := by simpa using this
    exact ⟨z2, z3, z4, by omega, z5⟩
  have live : R3.2 = 0 → R2.2 = 0 := fun z => (q34 z).1
  refine ⟨R3.1, R3.2, clT T (oI W.1 0) (nI (nT Q (tp Q R1.1))), inW T N 2 (wT Q (tp Q (t + 1))), b, ⟨q33, by omega, q31, fun z => ?_⟩, fun σ hS hD => ?_, fun σ hS hD => ?_⟩
  · have z1 := live z
    obtain ⟨z2, z3, z4, z5, j, hj, hj2⟩ := live2 z1
    obtain ⟨-, w1, w2, w3, -⟩ := r4 z4
    obtain ⟨-, v1, v2⟩ := q24 z1
    rw [hj2]
    exact ⟨by omega, DV_cl hV z5 hj ⟨v1, v2⟩ w1 w2⟩
  · unfold FX8_readCloth
    rw [r15_0, r15_1]
    refine c_full (r := 2) (mx := 6) hD.1.2.2 h26 (by decide) (c_head vQ hV hS hD hR (fun x τ1 s1 f1 hx => ?_))
    have bad : ¬ W.2.2 = 0 → fE Q 1 R.1 R.2 = W.2.2 → R.1 = W.2.1 → wp (bd (FX5_fail 1 (1 : Int32)) (fun (_ : Unit) => pu ())) τ1 (fun _ τ => SC Q R3.1 R3.2 τ ∧ (R3.2 = 0 → DC (clT T (oI W.1 0) (nI (nT Q (tp Q R1.1)))) (inW T N 2 (wT Q (tp Q (t + 1)))) b τ) ∧ FDc σ τ) := by
      intro n e1 e2
      refine wp_bd (c_fail (k := 1) (by decide) r1 s1) (fun _ τ2 q => wp_pu ?_)
      rw [dead n]
      rw [e1, e2] at q
      exact ⟨q.1, fun z => absurd z n, FDc_tr (FDc_t f1) (FDc_t q.2)⟩
    refine ws_gW (SC_w s1) ?_
    rcases hW with ⟨h, rfl⟩ | ⟨h, hw, rfl⟩ | ⟨j, hj, h, hw, rfl⟩
    · rw [if_neg h, if_pos rfl]
      exact bad h (by unfold fE; rw [if_neg h]) rfl
    · rw [if_pos h]
      have n1 := fc_ne (Q := Q) (k := 1) (t := R.1) (by decide)
      have e1 : fE Q 1 R.1 R.2 = fc Q 1 R.1 := by unfold fE; rw [if_pos h]
      cases hx2 : wrT Q (tp Q R.1) with
      | none =>
        rw [if_pos rfl]
        exact bad n1 e1 rfl
      | some k =>
        rw [if_neg (by simp)]
        refine wp_eq (show nn (some k) τ1 = some (k, τ1) from rfl) ?_
        rw [if_neg (fun q => by
          obtain ⟨k1, k2⟩ := (wgr_2 k).2.mp q
          have := hw (k.val - 12) (by omega)
          rw [show 12 + (k.val - 12) = k.val by omega, wr_iff.mp hx2] at this
          cases this)]
        exact bad n1 e1 rfl
    · rw [if_pos h]
      have e : wrT Q (tp Q R.1) = some (⟨12 + j, by omega⟩ : Fin 23) := wr_iff.mpr hw
      rw [e, if_neg (by simp)]
      refine wp_eq (show nn (some (⟨12 + j, by omega⟩ : Fin 23)) τ1 = some (_, τ1) from rfl) ?_
      rw [if_pos ((wgr_2 _).2.mpr ⟨by show 12 ≤ 12 + j; omega, by show 12 + j < 16; omega⟩)]
      rw [h] at s1
      refine wp_bd (c_adv vQ s1) ?_
      rintro _ τ2 ⟨s2, f2⟩
      refine wp_bd (c_expectWord vQ w3 (5 : Fin 23) s2) ?_
      rintro _ τ3 ⟨s3, f3⟩
      have s3' : SC Q R1.1 R1.2 τ3 := by rw [hR1]; exact s3
      refine wp_bd (c_expectNumber (lo := 1) (hi := 20) vQ q13 (by decide) (by decide) s3') ?_
      rintro v τ4 ⟨s4, hv, f4⟩
      rw [← hR2] at s4 hv
      refine wp_bd (c_expectSign (c := 59) vQ q23 (by decide) (by decide) (by decide) (by decide) s4) ?_
      rintro _ τ5 ⟨s5, f5⟩
      rw [← hR3] at s5
      refine ws_gv s5.2.1 ?_
      have f := FT_tr f1 (FT_tr f2 (FT_tr f3 (FT_tr f4 f5)))
      by_cases z : R3.2 = 0
      · have z1 := live z
        obtain ⟨z2, z3, z4, z5, -⟩ := live2 z1
        rw [if_pos (show nI R3.2 = 0 by rw [z]; rfl), hx z4, hv z1]
        rw [z] at s5
        refine bd_asw (wp_eq (show nn (some (⟨12 + j, by omega⟩ : Fin 23)) τ5 = some (_, τ5) from rfl) ?_)
        rw [show wva.getD (⟨12 + j, by omega⟩ : Fin 23).val 0 = nI j from wva_k j hj]
        refine bd_asw (wp_bd (c_addCloth z5 s5 (DC_t f hD)) (fun _ τ6 q => ?_))
        refine wp_eq (show pu () τ6 = some ((), τ6) from rfl) (wp_pu ?_)
        rw [z]
        exact ⟨q.1, fun _ => q.2.1, FDc_tr (FDc_t f) q.2.2⟩
      · rw [if_neg (nI_ne0 (by omega) (by omega))]
        exact wp_eq (show pu () τ5 = some ((), τ5) from rfl) (wp_pu ⟨s5, fun h => absurd h z, FDc_t f⟩)
  · unfold FX12_readLine FX12_takeAfter
    rw [r249_10]
    refine bd_asw (wp_eq (m_isWord (k := 0) vQ (by decide) (by decide) hS) ?_)
    rw [wB_x (j := 0) (by decide) (by decide) hk (by decide), if_pos (show b2i (decide ((0 : Nat) = 0) && false) = 0 from rfl)]
    refine bd_asw (bd_asw (wp_eq (m_isWord (k := 2) vQ (by decide) (by decide) hS) ?_))
    rw [wB_x (j := 2) (by decide) (by decide) hk (by decide), if_pos (show b2i (decide ((0 : Nat) = 0) && false) = 0 from rfl)]
    refine bd_asw (wp_eq (m_isWord (k := 4) vQ (by decide) (by decide) hS) ?_)
    rw [hk, if_neg (show ¬ b2i (decide ((0 : Nat) = 0) && true) = 0 by decide)]
    refine bd_asw (ws_a (i := 42) (by decide) (by decide) hD.1.1.2.2 ?_)
    rw [lt_eq]
    refine bd_asw (wp_bd (m_readName (r := 2) (mx := 6) vQ hV (Or.inr (Or.inr ⟨rfl, rfl⟩)) rfl ht hS hD hR) ?_)
    rintro _ τ1 ⟨s1, f1, g1⟩
    refine bd_asw (wp_bd (m_takeOne (f := 12) vQ (by decide) r1 s1 hW) ?_)
    rintro u τ2 ⟨rfl, s2, f2⟩
    refine bd_asw (bd_asw (wp_bd (m_takeWord (k := 5) vQ w3 (by decide) s2) ?_))
    rintro _ τ3 ⟨s3, f3⟩
    rw [← hR1] at s3
    refine bd_asw (wp_bd (m_takeNumber (lo := 1) (hi := 20) vQ q13 (by decide) (by decide) s3) ?_)
    rintro v τ4 ⟨s4, hv, f4⟩
    rw [← hR2] at s4 hv
    refine wp_eq (show pu v τ4 = some (_, τ4) from rfl) (bd_asw (ws_gv s4.2.2.2.2 ?_))
    have fr := eqr_tr f2 (eqr_tr f3 f4)
    have f := FDm_tr f1 (FDm_a fr)
    by_cases z : R2.2 = 0
    · obtain ⟨z2, z3, z4, z5, -⟩ := live2 z
      rw [if_pos (show nI R2.2 = 0 by rw [z]; rfl), hv z]
      rw [show (58 : Int32) + 2 * nI (T.1 2) = nI (58 + 2 * T.1 2) by rw [show (2 : Int32) = nI 2 from rfl, pk_mul]; exact nI_add 58 _]
      refine bd_asw (bd_asw (ws_u (by omega) (by decide) ?_))
      rw [nI_1, show 58 + 2 * T.1 2 + 1 = 59 + 2 * T.1 2 by omega]
      refine bd_asw (ws_u (by omega) (by decide) ?_)
      refine wp_eq (show pu () _ = some ((), _) from rfl) (wp_eq (show pu () _ = some ((), _) from rfl) (wp_eq (show pu () _ = some ((), _) from rfl) ?_))
      have hM := m_cl (u := oI W.1 0) (v := nI (nT Q (tp Q R1.1))) hV.1.1.1 hV.1.1.2.1 z5 hD (HdM_a fr (g1 z4))
      have hq : eqr (fun b j => b = 255 ∧ 40 ≤ j) τ4 (up2 (up2 τ4.1 255 (58 + 2 * T.1 2) (oI W.1 0)) 255 (59 + 2 * T.1 2) (nI (nT Q (tp Q R1.1))), τ4.2) := eqr_tr (eqr_up (by omega)) (eqr_up (σ := (up2 τ4.1 255 (58 + 2 * T.1 2) (oI W.1 0), τ4.2)) (by omega))
      have s5 : SM Q m R2.1 R2.2 (up2 (up2 τ4.1 255 (58 + 2 * T.1 2) (oI W.1 0)) 255 (59 + 2 * T.1 2) (nI (nT Q (tp Q R1.1))), τ4.2) := SM_r s4 hq (fun b j z => by omega) s4.2.2.1 ((hq.1 _ _ (by omega)).trans s4.2.2.2.1) ((hq.1 _ _ (by omega)).trans s4.2.2.2.2)
      refine wp_mono (m_takeSign vQ q23 s5 59) (fun _ τ6 q => ?_)
      rw [← hR3] at q
      exact ⟨q.1, fun _ => DM_a q.2 hM, FDm_tr f (FDm_tr (FDm_r hq (fun b j z => by unfold RDm; omega)) (FDm_a q.2))⟩
    · rw [if_neg (nI_ne0 (by omega) (by omega))]
      refine bd_asw (wp_eq (show pu () τ4 = some ((), τ4) from rfl) (wp_eq (show pu () τ4 = some ((), τ4) from rfl) (wp_eq (show pu () τ4 = some ((), τ4) from rfl) ?_)))
      refine wp_mono (m_takeSign vQ q23 s4 59) (fun _ τ5 q => ?_)
      rw [← hR3] at q
      exact ⟨q.1, fun h => absurd (live h) z, FDm_tr f (FDm_a q.2)⟩
