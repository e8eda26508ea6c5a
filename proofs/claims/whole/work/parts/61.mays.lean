/-! ===== mays ===== -/
def drG (G : Nat) : Nat := (G * 1103515245 + 12345) % 2147483648
def drV (G n : Nat) : Nat := (drG G / 65536) % n
theorem drG_lt (G : Nat) : drG G < 2147483648 := Nat.mod_lt _ (by decide)
theorem drV_lt {G n : Nat} (h : 0 < n) : drV G n < n := Nat.mod_lt _ h
theorem dr_g {G : Nat} (h : G < 2147483648) : (lN G * (1103515245 : Int64) + (12345 : Int64)) - (lN G * (1103515245 : Int64) + (12345 : Int64)) / (2147483648 : Int64) * (2147483648 : Int64) = lN (drG G) := by
  have e1 : lN G * (1103515245 : Int64) + (12345 : Int64) = lN (G * 1103515245 + 12345) := by
    rw [show (1103515245 : Int64) = lN 1103515245 from rfl, lN_mul, show (12345 : Int64) = lN 12345 from rfl, lN_add]
  rw [e1, show (2147483648 : Int64) = lN 2147483648 from rfl, pk_lRem (by omega) (by decide) (by decide)]
  rfl
theorem dr_v {G n : Nat} (h0 : 0 < n) (hn : n < 100) : ((lN (drG G) / (65536 : Int64)) - (lN (drG G) / (65536 : Int64)) / (nI n).toInt64 * (nI n).toInt64).toInt32 = nI (drV G n) := by
  have := drG_lt G
  rw [show (65536 : Int64) = lN 65536 from rfl, pk_lDiv (by omega) (by decide) (by decide), nI_l (by omega), pk_lRem (by omega) h0 (by omega), lN_i]
  rfl
theorem lN_n0 {n : Nat} (h0 : 0 < n) (hn : n < 100) : ¬ (nI n).toInt64 = 0 := by
  rw [nI_l (by omega)]
  intro e
  have := (lN_eq (b := 0) (by omega) (by decide)).mp e
  omega
theorem c_draw {σ : MM} {G n : Nat} (h : G < 2147483648) (hg : σ.2.1 43 6 = lN G) (h0 : 0 < n) (hn : n < 100) : FX4_draw 43 (nI n) σ = some (nI (drV G n), (σ.1, up2 σ.2.1 43 6 (lN (drG G)), σ.2.2)) := by
  unfold FX4_draw
  refine (ev_bd (show gL 43 6 σ = some (lN G, σ) by unfold gL; rw [hg])).trans ?_
  refine (ev_bd (show gd (¬ (2147483648 : Int64) = 0) σ = some ((), σ) from rfl)).trans ?_
  rw [dr_g h]
  refine (ev_bd (show sL 43 6 (lN (drG G)) σ = some ((), (σ.1, up2 σ.2.1 43 6 (lN (drG G)), σ.2.2)) from rfl)).trans ?_
  rw [if_neg (show ¬ nI n ≤ 0 from nI_nle (by omega) (by omega))]
  have e2 : gL 43 6 ((σ.1, up2 σ.2.1 43 6 (lN (drG G)), σ.2.2) : MM) = some (lN (drG G), (σ.1, up2 σ.2.1 43 6 (lN (drG G)), σ.2.2)) := by
    unfold gL
    simp [up2]
  rw [bd_as]
  refine (ev_bd e2).trans ?_
  rw [bd_as]
  refine (ev_bd (show gd (¬ (65536 : Int64) = 0) _ = some ((), _) from rfl)).trans ?_
  rw [bd_as]
  refine (ev_bd (show gd (¬ (nI n).toInt64 = 0) _ = some ((), _) by unfold gd; rw [if_pos (lN_n0 h0 hn)])).trans ?_
  rw [dr_v h0 hn]
  rfl
theorem m_draw {σ : MM} {G n : Nat} (h : G < 2147483648) (hg : σ.2.1 249 30 = lN G) (h0 : 0 < n) (hn : n < 100) : FX12_draw 249 (nI n) σ = some (nI (drV G n), (σ.1, up2 σ.2.1 249 30 (lN (drG G)), σ.2.2)) := by
  unfold FX12_draw
  refine (ev_bd (show gL 249 30 σ = some (lN G, σ) by unfold gL; rw [hg])).trans ?_
  refine (ev_bd (show gd (¬ (2147483648 : Int64) = 0) σ = some ((), σ) from rfl)).trans ?_
  rw [dr_g h]
  refine (ev_bd (show sL 249 30 (lN (drG G)) σ = some ((), (σ.1, up2 σ.2.1 249 30 (lN (drG G)), σ.2.2)) from rfl)).trans ?_
  have e2 : gL 249 30 ((σ.1, up2 σ.2.1 249 30 (lN (drG G)), σ.2.2) : MM) = some (lN (drG G), (σ.1, up2 σ.2.1 249 30 (lN (drG G)), σ.2.2)) := by
    unfold gL
    simp [up2]
  refine (ev_bd e2).trans ?_
  refine (ev_bd (show gd (¬ (65536 : Int64) = 0) _ = some ((), _) from rfl)).trans ?_
  refine (ev_bd (show gd (¬ (nI n).toInt64 = 0) _ = some ((), _) by unfold gd; rw [if_pos (lN_n0 h0 hn)])).trans ?_
  rw [dr_v h0 hn]
  rfl
def dwS (T : TW) (S : SK) (G : Nat) : SK × Nat × Bool :=
  if S 1 (drV G (T.1 2)) = -1 then
    (if frS T (soS T S (drV G (T.1 2))) (drV (drG G) (T.1 0)) < nI (drV (drG (drG G)) 3 + 1) then (soS T S (drV G (T.1 2)), drG (drG (drG G)), false)
      else (puS (soS T S (drV G (T.1 2))) (drV G (T.1 2)) (nI (drV (drG G) (T.1 0))) (nI (drV (drG (drG G)) 3 + 1)), drG (drG (drG G)), true))
  else ((if S 0 (drV G (T.1 2)) ≤ 0 then dnS S (drV G (T.1 2)) else S), drG G, false)
theorem VSk_dw {T : TW} {S : SK} {G : Nat} (hV : VTn T) (hl : 0 < T.1 0) (hv : VSk T S) : VSk T (dwS T S G).1 ∧ (dwS T S G).2.1 < 2147483648 := by
  unfold dwS
  by_cases q : S 1 (drV G (T.1 2)) = -1
  · rw [if_pos q]
    by_cases q2 : frS T (soS T S (drV G (T.1 2))) (drV (drG G) (T.1 0)) < nI (drV (drG (drG G)) 3 + 1)
    · rw [if_pos q2]; exact ⟨VSk_so hV hv, drG_lt _⟩
    · rw [if_neg q2]
      have := drV_lt (G := drG (drG G)) (n := 3) (by decide)
      exact ⟨VSk_pu (VSk_so hV hv) (Or.inr ⟨_, drV_lt hl, rfl⟩) ⟨_, by omega, rfl⟩, drG_lt _⟩
  · rw [if_neg q]
    by_cases q2 : S 0 (drV G (T.1 2)) ≤ 0
    · simp only [if_pos q2]; exact ⟨VSk_dn hv, drG_lt _⟩
    · simp only [if_neg q2]; exact ⟨hv, drG_lt _⟩
/-- the class's memory in a May: ints as in a trial, the draw's long -/
def MyC (T : TW) (σ : MM) (S : SK) (G : Nat) (τ : MM) : Prop := CSk T 43 S τ ∧ τ.2.1 43 6 = lN G ∧ (∀ b j, ¬ RtC b j → τ.1 b j = σ.1 b j) ∧ ∀ b j, b ≠ 43 → τ.2.1 b j = σ.2.1 b j
def MyM (T : TW) (σ : MM) (S : SK) (G : Nat) (τ : MM) : Prop := MSk T 924 S τ ∧ τ.2.1 249 30 = lN G ∧ (∀ b j, ¬ RtM b j → τ.1 b j = σ.1 b j) ∧ ∀ b j, b ≠ 249 → τ.2.1 b j = σ.2.1 b j
theorem my_T {T : TW} {S : SK} {G : Nat} {σ τ : MM} (h : MyC T σ S G τ) (hT : CTn T σ) : CTn T τ := tc_T (σ := (σ.1, τ.2)) ⟨h.2.2.1, rfl⟩ hT
theorem mym_T {T : TW} {S : SK} {G : Nat} {σ τ : MM} (h : MyM T σ S G τ) (hT : MTn T σ) : MTn T τ := tm_T (σ := (σ.1, τ.2)) ⟨h.2.2.1, rfl⟩ hT
theorem my_r {T : TW} {S S2 : SK} {G : Nat} {σ τ υ : MM} (h : MyC T σ S G τ) (hq : eqr RtC τ υ) (hS : CSk T 43 S2 υ) : MyC T σ S2 G υ := ⟨hS, by rw [hq.2]; exact h.2.1, fun b j n => (hq.1 b j n).trans (h.2.2.1 b j n), fun b j n => by rw [hq.2]; exact h.2.2.2 b j n⟩
theorem mym_r {T : TW} {S S2 : SK} {G : Nat} {σ τ υ : MM} (h : MyM T σ S G τ) (hq : eqr RtM τ υ) (hS : MSk T 924 S2 υ) : MyM T σ S2 G υ := ⟨hS, by rw [hq.2]; exact h.2.1, fun b j n => (hq.1 b j n).trans (h.2.2.1 b j n), fun b j n => by rw [hq.2]; exact h.2.2.2 b j n⟩
theorem up2L_at {f : Nat → Nat → Int64} {a j : Nat} {x : Int64} : up2 f a j x a j = x := by simp [up2]
theorem up2L_ne {f : Nat → Nat → Int64} {a j b i : Nat} {x : Int64} (h : ¬ (b = a ∧ i = j)) : up2 f a j x b i = f b i := by simp [up2, h]
theorem my_d {T : TW} {S : SK} {G G2 : Nat} {σ τ : MM} (h : MyC T σ S G τ) : MyC T σ S G2 (τ.1, up2 τ.2.1 43 6 (lN G2), τ.2.2) := ⟨h.1, show up2 τ.2.1 43 6 (lN G2) 43 6 = lN G2 from up2L_at, h.2.2.1, fun b j n => (show up2 τ.2.1 43 6 (lN G2) b j = τ.2.1 b j from up2L_ne (by omega)).trans (h.2.2.2 b j n)⟩
theorem mym_d {T : TW} {S : SK} {G G2 : Nat} {σ τ : MM} (h : MyM T σ S G τ) : MyM T σ S G2 (τ.1, up2 τ.2.1 249 30 (lN G2), τ.2.2) := ⟨h.1, show up2 τ.2.1 249 30 (lN G2) 249 30 = lN G2 from up2L_at, h.2.2.1, fun b j n => (show up2 τ.2.1 249 30 (lN G2) b j = τ.2.1 b j from up2L_ne (by omega)).trans (h.2.2.2 b j n)⟩
theorem c_drawOne {T : TW} {S : SK} {G : Nat} {σ τ : MM} (hV : VTn T) (hT : CTn T σ) (hv : VSk T S) (hG : G < 2147483648) (hl : 0 < T.1 0) (hc : 0 < T.1 2) (h : MyC T σ S G τ) : wp (FX4_drawOne 43) τ (fun r υ => r = (dwS T S G).2.2 ∧ MyC T σ (dwS T S G).1 (dwS T S G).2.1 υ) := by
  have v6 := hV.1.2.2.1
  have v5 := hV.1.1
  unfold FX4_drawOne
  rw [r43_0, r43_1]
  refine ws_gv (my_T h hT).1.2.2.1 ?_
  refine wp_eq (c_draw hG h.2.1 hc (by omega)) ?_
  have h1 := my_d (G2 := drG G) h
  generalize ((τ.1, up2 τ.2.1 43 6 (lN (drG G)), τ.2.2) : MM) = τ1 at h1
  have hcv := drV_lt (G := G) hc
  have hlv := drV_lt (G := drG G) hl
  have h3v := drV_lt (G := drG (drG G)) (n := 3) (by decide)
  refine wp_eq (ks_hangs (my_T h1 hT) o43 h1.1 (nI (drV G (T.1 2)))) ?_
  rw [ha_n v6 hcv]
  unfold dwS
  by_cases q : S 1 (drV G (T.1 2)) = -1
  · rw [if_pos (by simp [q, b2i]), if_pos q]
    obtain ⟨τ2, e2, g1, g2⟩ := ks_soak (my_T h1 hT) o43 h1.1 hcv
    refine wp_eq e2 ?_
    have h2 := my_r h1 (eqr_mono g2 (fun b j z => by unfold RtC; omega)) g1
    refine ws_gv (my_T h2 hT).1.1 ?_
    refine wp_eq (c_draw (drG_lt G) h2.2.1 hl (by omega)) ?_
    have h3 := my_d (G2 := drG (drG G)) h2
    generalize ((τ2.1, up2 τ2.2.1 43 6 (lN (drG (drG G))), τ2.2.2) : MM) = τ3 at h3
    refine wp_eq (c_draw (n := 3) (drG_lt _) h3.2.1 (by decide) (by decide)) ?_
    have h4 := my_d (G2 := drG (drG (drG G))) h3
    generalize ((τ3.1, up2 τ3.2.1 43 6 (lN (drG (drG (drG G)))), τ3.2.2) : MM) = τ4 at h4
    rw [lt_eq, nI_1]
    refine wp_eq (ks_canHang (my_T h4 hT) o43 h4.1 _ _ _) ?_
    rw [ch_n v5 v6 hcv hlv (by omega) (by omega)]
    have hs : soS T S (drV G (T.1 2)) 1 (drV G (T.1 2)) = -1 := by
      show up2 S 0 _ _ 1 _ = -1
      rw [up2_ne (by omega)]; exact q
    by_cases q2 : frS T (soS T S (drV G (T.1 2))) (drV (drG G) (T.1 0)) < nI (drV (drG (drG G)) 3 + 1)
    · rw [if_pos q2, if_pos (bf (by simp [q2]))]
      exact ws_z0 ⟨rfl, h4⟩
    · rw [if_neg q2, if_neg (bt (by simp [hs, q2]))]
      obtain ⟨τ5, e5, g3, g4⟩ := ks_putUp (l := nI (drV (drG G) (T.1 0))) (k := nI (drV (drG (drG G)) 3 + 1)) v6 o43 h4.1 hcv
      exact wp_eq e5 (ws_z1 ⟨rfl, my_r h4 (eqr_mono g4 (fun b j z => by unfold RtC; omega)) g3⟩)
  · rw [if_neg (by simp [q, b2i]), if_neg q]
    refine ws_a (by omega) (by decide) (h1.1.2 _ hcv).1 ?_
    have ew := wet0 hv hcv
    by_cases q2 : S 0 (drV G (T.1 2)) = 0
    · rw [if_pos q2]
      rw [ew] at q2
      obtain ⟨τ2, e2, g1, g2⟩ := ks_putDown v6 o43 h1.1 hcv
      refine bd_asw (wp_eq e2 (wp_eq (show pu () τ2 = some ((), τ2) from rfl) (ws_z0 ⟨rfl, ?_⟩)))
      simp only [if_pos q2]
      exact my_r h1 (eqr_mono g2 (fun b j z => by unfold RtC; omega)) g1
    · rw [if_neg q2]
      rw [ew] at q2
      refine wp_eq (show pu () τ1 = some ((), τ1) from rfl) (ws_z0 ⟨rfl, ?_⟩)
      simp only [if_neg q2]
      exact h1
theorem okBo : okB 924 := by unfold okB; decide
theorem m_drawOne {T : TW} {S : SK} {G : Nat} {σ τ : MM} (hV : VTn T) (hT : MTn T σ) (hv : VSk T S) (hG : G < 2147483648) (hl : 0 < T.1 0) (hc : 0 < T.1 2) (h : MyM T σ S G τ) : wp (FX12_drawsCloth 249) τ (fun r υ => r = (dwS T S G).2.2 ∧ MyM T σ (dwS T S G).1 (dwS T S G).2.1 υ) := by
  have v6 := hV.1.2.2.1
  have v5 := hV.1.1
  unfold FX12_drawsCloth
  rw [r249_23]
  refine wp_eq (ms_cloths (mym_T h hT)) ?_
  refine wp_eq (m_draw hG h.2.1 hc (by omega)) ?_
  have h1 := mym_d (G2 := drG G) h
  generalize ((τ.1, up2 τ.2.1 249 30 (lN (drG G)), τ.2.2) : MM) = τ1 at h1
  have hcv := drV_lt (G := G) hc
  have hlv := drV_lt (G := drG G) hl
  have h3v := drV_lt (G := drG (drG G)) (n := 3) (by decide)
  have eh : FX12_doesHang 249 (924 : Int32) (nI (drV G (T.1 2))) τ1 = some (decide (¬ S 1 (drV G (T.1 2)) = -1), τ1) := ms_doesHang (b := 924) hV okBo h1.1 hv hcv
  refine wp_eq eh ?_
  unfold dwS
  by_cases q : S 1 (drV G (T.1 2)) = -1
  · rw [if_pos (by simp [q, b2i]), if_pos q]
    refine wp_eq (ms_soaked hV (mym_T h1 hT) hcv) ?_
    rw [show (925 : Int32) + nI (drV G (T.1 2)) = nI (924 + 1 + drV G (T.1 2)) from nI_add 925 _]
    refine ws_u (by omega) (by decide) ?_
    have h2 : MyM T σ (soS T S (drV G (T.1 2))) (drG G) (up2 τ1.1 265 (924 + 1 + drV G (T.1 2)) (T.2 4 (drV G (T.1 2))), τ1.2) := mym_r h1 (eqr_up (by unfold RtM; omega)) (ms_soak v6 h1.1 hcv)
    generalize ((up2 τ1.1 265 (924 + 1 + drV G (T.1 2)) (T.2 4 (drV G (T.1 2))), τ1.2) : MM) = τ2 at h2
    refine wp_eq (ms_lines (mym_T h2 hT)) ?_
    refine wp_eq (m_draw (drG_lt G) h2.2.1 hl (by omega)) ?_
    have h3 := mym_d (G2 := drG (drG G)) h2
    generalize ((τ2.1, up2 τ2.2.1 249 30 (lN (drG (drG G))), τ2.2.2) : MM) = τ3 at h3
    refine wp_eq (m_draw (n := 3) (drG_lt _) h3.2.1 (by decide) (by decide)) ?_
    have h4 := mym_d (G2 := drG (drG (drG G))) h3
    generalize ((τ3.1, up2 τ3.2.1 249 30 (lN (drG (drG (drG G)))), τ3.2.2) : MM) = τ4 at h4
    rw [lt_eq, nI_1]
    have em : FX12_mayHang 249 (924 : Int32) (nI (drV G (T.1 2))) (nI (drV (drG G) (T.1 0))) (nI (drV (drG (drG G)) 3 + 1)) τ4 = _ := ms_mayHang (b := 924) hV (mym_T h4 hT) okBo h4.1 (VSk_so hV hv) hcv hlv _
    refine wp_eq em ?_
    have hs : soS T S (drV G (T.1 2)) 1 (drV G (T.1 2)) = -1 := by
      show up2 S 0 _ _ 1 _ = -1
      rw [up2_ne (by omega)]; exact q
    rw [lt_eq]
    by_cases q2 : frS T (soS T S (drV G (T.1 2))) (drV (drG G) (T.1 0)) < nI (drV (drG (drG G)) 3 + 1)
    · rw [if_pos q2, if_pos (bf (by simp [q2]))]
      refine wp_eq (show pu () τ4 = some ((), τ4) from rfl) ?_
      rw [bf (by simp [q2])]
      exact ws_z0 ⟨rfl, h4⟩
    · have hb : (decide (soS T S (drV G (T.1 2)) 1 (drV G (T.1 2)) = -1) && decide (¬ frS T (soS T S (drV G (T.1 2))) (drV (drG G) (T.1 0)) < nI (drV (drG (drG G)) 3 + 1))) = true := by simp [hs, q2]
      rw [if_neg q2, hb, if_neg (show ¬ b2i true = 0 by decide)]
      obtain ⟨τ5, e5, g3, g4⟩ := ms_hangs (b := 924) (l := nI (drV (drG G) (T.1 0))) (k := nI (drV (drG (drG G)) 3 + 1)) v6 okBo h4.1 hcv
      refine bd_asw (wp_eq e5 (wp_eq (show pu () τ5 = some ((), τ5) from rfl) ?_))
      exact ws_z (b := true) ⟨rfl, mym_r h4 (eqr_mono g4 (fun b j z => by unfold RtM; omega)) g3⟩
  · rw [if_neg (by simp [q, b2i]), if_neg q]
    have ew : FX12_isWet 249 (924 : Int32) (nI (drV G (T.1 2))) τ1 = some (decide (¬ S 0 (drV G (T.1 2)) ≤ 0), τ1) := ms_isWet (b := 924) hV okBo h1.1 hcv
    refine wp_eq ew ?_
    by_cases q2 : S 0 (drV G (T.1 2)) ≤ 0
    · rw [if_pos (by simp [q2, b2i])]
      obtain ⟨τ2, e2, g1, g2⟩ := ms_comesDown (b := 924) v6 okBo h1.1 hcv
      refine bd_asw (wp_eq e2 (wp_eq (show pu () τ2 = some ((), τ2) from rfl) (ws_z0 ⟨rfl, ?_⟩)))
      simp only [if_pos q2]
      exact mym_r h1 (eqr_mono g2 (fun b j z => by unfold RtM; omega)) g1
    · rw [if_neg (by simp [q2, b2i])]
      refine wp_eq (show pu () τ1 = some ((), τ1) from rfl) (ws_z0 ⟨rfl, ?_⟩)
      simp only [if_neg q2]
      exact h1
