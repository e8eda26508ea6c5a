/-! ===== mays: the hours ===== -/
def dwO (T : TW) (S : SK) (G : Nat) : SK × Nat × Bool := if T.1 0 = 0 then (S, G, false) else if T.1 2 = 0 then (S, G, false) else dwS T S G
def myF (T : TW) (S : SK) (G : Nat) : Nat → SK × Nat × Int32 × Int32
  | 0 => (S, G, 0, 0)
  | n + 1 => (paS T (dwO T (myF T S G n).1 (myF T S G n).2.1).1 true, (dwO T (myF T S G n).1 (myF T S G n).2.1).2.1, (if thB T (paS T (dwO T (myF T S G n).1 (myF T S G n).2.1).1 true) = true then (myF T S G n).2.2.1 else (myF T S G n).2.2.1 + 1), (if (dwO T (myF T S G n).1 (myF T S G n).2.1).2.2 = true then (myF T S G n).2.2.2 + 1 else (myF T S G n).2.2.2))
theorem dwO_ok {T : TW} {S : SK} {G : Nat} (hV : VTn T) (hv : VSk T S) (hG : G < 2147483648) : VSk T (dwO T S G).1 ∧ (dwO T S G).2.1 < 2147483648 := by
  unfold dwO
  by_cases q : T.1 0 = 0
  · rw [if_pos q]; exact ⟨hv, hG⟩
  · rw [if_neg q]
    by_cases q2 : T.1 2 = 0
    · rw [if_pos q2]; exact ⟨hv, hG⟩
    · rw [if_neg q2]; exact VSk_dw hV (by omega) hv
theorem myF_ok {T : TW} {S : SK} {G : Nat} (hV : VTn T) (hv : VSk T S) (hG : G < 2147483648) : ∀ n, VSk T (myF T S G n).1 ∧ (myF T S G n).2.1 < 2147483648
  | 0 => ⟨hv, hG⟩
  | n + 1 => by
    obtain ⟨h1, h2⟩ := myF_ok hV hv hG n
    obtain ⟨h3, h4⟩ := dwO_ok hV h1 h2
    exact ⟨VSk_pa h3, h4⟩
def maB (x y z : Int32) : Bool := (decide (¬ x < 0) && decide (¬ 9999 < x)) && ((decide (¬ y < 1) && decide (¬ 99 < y)) && (decide (¬ z < 0) && decide (¬ 2 < z)))
def maR (A : AB) (x y z : Int32) : Int32 := if maB x y z = true then (if z = 0 then (myF A.1 A.2.1.1 x.toNatClampNeg y.toNatClampNeg).2.2.1 else if z = 1 then (myF A.1 A.2.1.1 x.toNatClampNeg y.toNatClampNeg).2.2.2 else hgS A.1 (myF A.1 A.2.1.1 x.toNatClampNeg y.toNatClampNeg).1) else -1
theorem ma_ok {x y z : Int32} (h : maB x y z = true) : (∃ G, G ≤ 9999 ∧ x = nI G) ∧ (∃ n, n ≤ 99 ∧ y = nI n) ∧ (decide (¬ z < 0) && decide (¬ 2 < z)) = true := by
  unfold maB at h
  rw [Bool.and_eq_true, Bool.and_eq_true (decide (¬ y < 1) && decide (¬ 99 < y))] at h
  obtain ⟨h1, h2, h3⟩ := h
  refine ⟨wi_ex (n := 9999) rfl h1, wi_ex (n := 99) (M := 99) rfl ?_, h3⟩
  simp only [Bool.and_eq_true, decide_eq_true_eq] at h2 ⊢
  exact ⟨fun q => h2.1 (Int32.lt_trans q (by decide)), h2.2⟩
theorem c_mays {A : AB} {σ : MM} (hV : VA A) (hA : CA A σ) (x y z : Int32) : wp (FX11_mays 0 x y z) σ (fun r τ => r = maR A x y z ∧ CA A τ ∧ ofC σ τ) := by
  have v6 := hV.1.1.2.2.1
  have v5 := hV.1.1.1
  unfold FX11_mays maR
  rw [r0_1, r0_5, r0_6]
  have no : ¬ maB x y z = true → wp (pu (-1 : Int32)) σ (fun r τ => r = (if maB x y z = true then (if z = 0 then (myF A.1 A.2.1.1 x.toNatClampNeg y.toNatClampNeg).2.2.1 else if z = 1 then (myF A.1 A.2.1.1 x.toNatClampNeg y.toNatClampNeg).2.2.2 else hgS A.1 (myF A.1 A.2.1.1 x.toNatClampNeg y.toNatClampNeg).1) else -1) ∧ CA A τ ∧ ofC σ τ) := by
    intro q
    rw [if_neg q]
    exact wp_pu ⟨rfl, hA, ofC_rf⟩
  by_cases a1 : x < 0
  · rw [if_pos a1]; exact no (by simp [maB, a1])
  rw [if_neg a1]
  by_cases a2 : 9999 < x
  · rw [if_pos a2]; exact no (by simp [maB, a2])
  rw [if_neg a2]
  by_cases a3 : y < 1
  · rw [if_pos a3]; exact no (by simp [maB, a3])
  rw [if_neg a3]
  by_cases a4 : 99 < y
  · rw [if_pos a4]; exact no (by simp [maB, a4])
  rw [if_neg a4]
  by_cases a5 : z < 0
  · rw [if_pos a5]; exact no (by simp [maB, a5])
  rw [if_neg a5]
  by_cases a6 : z ≤ 2
  · have hb : maB x y z = true := by simp [maB, a1, a2, a3, a4, a5, Int32.not_lt.mpr a6]
    rw [if_pos a6, if_pos hb]
    obtain ⟨⟨G, hG, rfl⟩, ⟨n, hn, rfl⟩, -⟩ := ma_ok hb
    rw [cl_n (by omega), cl_n (by omega), nI_l (by omega)]
    obtain ⟨τ, e, h0⟩ := kt_copy v6 eqr_rf hA.2.1.1
    refine wp_eq e (wp_eq (show sL 43 6 (lN G) τ = some ((), (τ.1, up2 τ.2.1 43 6 (lN G), τ.2.2)) from rfl) ?_)
    have h1 : MyC A.1 σ A.2.1.1 G (τ.1, up2 τ.2.1 43 6 (lN G), τ.2.2) := ⟨h0.1, show up2 τ.2.1 43 6 (lN G) 43 6 = lN G from up2L_at, h0.2.1, fun b j n => (show up2 τ.2.1 43 6 (lN G) b j = τ.2.1 b j from up2L_ne (by omega)).trans (by rw [h0.2.2])⟩
    have w1 : ((τ.1, up2 τ.2.1 43 6 (lN G), τ.2.2) : MM).2.2 = σ.2.2 := by show τ.2.2 = _; rw [h0.2.2]
    generalize ((τ.1, up2 τ.2.1 43 6 (lN G), τ.2.2) : MM) = τ1 at h1 w1
    have fin : ∀ (S : SK) (G2 : Nat) (r : Int32) (υ : MM), MyC A.1 σ S G2 υ → r = (if z = 0 then (myF A.1 A.2.1.1 G n).2.2.1 else if z = 1 then (myF A.1 A.2.1.1 G n).2.2.2 else hgS A.1 (myF A.1 A.2.1.1 G n).1) → (r = (if z = 0 then (myF A.1 A.2.1.1 G n).2.2.1 else if z = 1 then (myF A.1 A.2.1.1 G n).2.2.2 else hgS A.1 (myF A.1 A.2.1.1 G n).1) ∧ CA A υ ∧ ofC σ υ) := by
      intro S G2 r υ h hr
      refine ⟨hr, CA_g (fun b j hb hs => h.2.2.1 b j (fun q => hs (RtC_sc b j q).2)) (fun b j q1 q2 => h.2.2.2 b j (by omega)) hA, fun b j hb => h.2.2.1 b j (fun q => by unfold RtC at q; omega), fun b j hb => h.2.2.2 b j (by omega)⟩
    refine ws_it (fun k s υ => s = ((myF A.1 A.2.1.1 G k).2.2.1, (myF A.1 A.2.1.1 G k).2.2.2, nI k) ∧ MyC A.1 σ (myF A.1 A.2.1.1 G k).1 (myF A.1 A.2.1.1 G k).2.1 υ) n (by omega) ⟨rfl, h1⟩ ?_
    rintro k s υ hk ⟨rfl, hq⟩
    by_cases hkn : k < n
    · rw [if_neg (nle_n hkn (by omega))]
      obtain ⟨vS, vG⟩ := myF_ok hV.1 hV.2.1.1 (show G < 2147483648 by omega) k
      have e3 : (myF A.1 A.2.1.1 G (k + 1)).2.2.1 = (if thB A.1 (myF A.1 A.2.1.1 G (k + 1)).1 = true then (myF A.1 A.2.1.1 G k).2.2.1 else (myF A.1 A.2.1.1 G k).2.2.1 + 1) := rfl
      have e4 : (myF A.1 A.2.1.1 G (k + 1)).2.2.2 = (if (dwO A.1 (myF A.1 A.2.1.1 G k).1 (myF A.1 A.2.1.1 G k).2.1).2.2 = true then (myF A.1 A.2.1.1 G k).2.2.2 + 1 else (myF A.1 A.2.1.1 G k).2.2.2) := rfl
      have e1 : (myF A.1 A.2.1.1 G (k + 1)).1 = paS A.1 (dwO A.1 (myF A.1 A.2.1.1 G k).1 (myF A.1 A.2.1.1 G k).2.1).1 true := rfl
      have e2 : (myF A.1 A.2.1.1 G (k + 1)).2.1 = (dwO A.1 (myF A.1 A.2.1.1 G k).1 (myF A.1 A.2.1.1 G k).2.1).2.1 := rfl
      refine ws_gv (my_T hq hA.1).1.1 ?_
      refine wp_bd (Q := fun r ω => r = (myF A.1 A.2.1.1 G (k + 1)).2.2.2 ∧ MyC A.1 σ (dwO A.1 (myF A.1 A.2.1.1 G k).1 (myF A.1 A.2.1.1 G k).2.1).1 (dwO A.1 (myF A.1 A.2.1.1 G k).1 (myF A.1 A.2.1.1 G k).2.1).2.1 ω) ?_ ?_
      · rw [e4]
        unfold dwO
        by_cases z1 : A.1.1 0 = 0
        · rw [if_pos (show nI (A.1.1 0) ≤ 0 by rw [z1]; decide), if_pos z1]
          exact wp_pu ⟨rfl, hq⟩
        · rw [if_neg (show ¬ nI (A.1.1 0) ≤ 0 from nI_nle (by omega) (by omega)), if_neg z1]
          refine ws_gv (my_T hq hA.1).1.2.2.1 ?_
          by_cases z2 : A.1.1 2 = 0
          · rw [if_pos (show nI (A.1.1 2) ≤ 0 by rw [z2]; decide), if_pos z2]
            exact wp_pu ⟨rfl, hq⟩
          · rw [if_neg (show ¬ nI (A.1.1 2) ≤ 0 from nI_nle (by omega) (by omega)), if_neg z2]
            refine wp_bd (c_drawOne hV.1 hA.1 vS vG (by omega) (by omega) hq) ?_
            rintro r ω ⟨rfl, h2⟩
            generalize hd : (dwS A.1 (myF A.1 A.2.1.1 G k).1 (myF A.1 A.2.1.1 G k).2.1) = d at h2
            cases hb2 : d.2.2 with
            | false =>
              rw [if_pos (show b2i false = 0 from rfl), if_neg (by decide)]
              exact wp_pu ⟨rfl, h2⟩
            | true =>
              rw [if_neg (show ¬ b2i true = 0 by decide), if_pos rfl, lt_eq]
              exact wp_pu ⟨rfl, h2⟩
      · rintro r ω ⟨rfl, h2⟩
        obtain ⟨vS2, vG2⟩ := dwO_ok hV.1 vS vG
        refine wp_bd (ks_pass hV.1 (my_T h2 hA.1) o43 h2.1 true) ?_
        rintro r2 ω2 ⟨-, g1, g2⟩
        have h3 := my_r h2 (eqr_mono g2 (fun b j z => by unfold RtC; omega)) g1
        rw [← e1, ← e2] at h3
        refine wp_bd (ks_thunders hV.1 (my_T h3 hA.1) o43 h3.1) ?_
        rintro b ω3 ⟨k1, k2⟩
        have h4 := my_r h3 (eqr_mono k1 (fun b j z => by unfold RtC; omega)) (CSk_r k1 (fun j => by omega) (by omega) h3.1)
        rw [th_b k2]
        refine wp_eq (x := (myF A.1 A.2.1.1 G (k + 1)).2.2.1) (τ := ω3) ?_ ?_
        · rw [e3]
          cases thB A.1 (myF A.1 A.2.1.1 G (k + 1)).1
          · rw [if_pos (show b2i false = 0 from rfl), if_neg (by decide)]; rfl
          · rw [if_neg (show ¬ b2i true = 0 by decide), if_pos rfl]; rfl
        rw [lt_eq]
        exact wp_pu (Or.inl ⟨_, rfl, hkn, by rw [nI_1], h4⟩)
    · have : k = n := by omega
      rw [if_pos (nI_le (by omega) (by omega))]
      refine wp_pu (Or.inr ⟨_, rfl, ?_⟩)
      rw [this] at hq ⊢
      by_cases z0 : z = 0
      · rw [if_pos z0]
        exact wp_pu (fin _ _ _ υ hq (by rw [if_pos z0]))
      · rw [if_neg z0]
        by_cases z1 : z = 1
        · rw [if_pos z1]
          exact wp_eq (show pu _ υ = some (_, υ) from rfl) (wp_pu (fin _ _ _ υ hq (by rw [if_neg z0, if_pos z1])))
        · rw [if_neg z1]
          refine bd_asw (wp_eq (ks_hanging (my_T hq hA.1) o43 hq.1) (wp_eq (show pu _ υ = some (_, υ) from rfl) (wp_pu (fin _ _ _ υ hq (by rw [if_neg z0, if_neg z1])))))
  · rw [if_neg a6]
    exact no (fun h => by
      have := (ma_ok h).2.2
      simp only [Bool.and_eq_true, decide_eq_true_eq] at this
      exact a6 (Int32.not_lt.mp this.2))
theorem m_mays {A : AB} {σ : MM} (hV : VA A) (hA : MA A σ) (x y z : Int32) : wp (FX12_mays 249 x y z) σ (fun r τ => r = maR A x y z ∧ MA A τ ∧ ofM σ τ) := by
  have v6 := hV.1.1.2.2.1
  have v5 := hV.1.1.1
  unfold FX12_mays
  refine m_th2 hV hA ?_
  intro σ hA
  unfold maR
  have no : ¬ maB x y z = true → wp (pu (-1 : Int32)) σ (fun r τ => r = (if maB x y z = true then (if z = 0 then (myF A.1 A.2.1.1 x.toNatClampNeg y.toNatClampNeg).2.2.1 else if z = 1 then (myF A.1 A.2.1.1 x.toNatClampNeg y.toNatClampNeg).2.2.2 else hgS A.1 (myF A.1 A.2.1.1 x.toNatClampNeg y.toNatClampNeg).1) else -1) ∧ MA A τ ∧ ofM σ τ) := by
    intro q
    rw [if_neg q]
    exact wp_pu ⟨rfl, hA, ofM_rf⟩
  refine wp_eq (ms_within x 0 9999 σ) ?_
  by_cases w1 : (decide (¬ x < 0) && decide (¬ 9999 < x)) = true
  · rw [if_neg (bt w1)]
    refine wp_eq (ms_within y 1 99 σ) ?_
    by_cases w2 : (decide (¬ y < 1) && decide (¬ 99 < y)) = true
    · rw [if_neg (bt w2)]
      refine wp_eq (ms_within z 0 2 σ) ?_
      by_cases w3 : (decide (¬ z < 0) && decide (¬ 2 < z)) = true
      · rw [if_neg (bt w3)]
        have hb : maB x y z = true := by unfold maB; rw [w1, w2, w3]; rfl
        rw [if_pos hb]
        obtain ⟨⟨G, hG, rfl⟩, ⟨n, hn, rfl⟩, -⟩ := ma_ok hb
        rw [cl_n (by omega), cl_n (by omega), nI_l (by omega)]
        refine wp_bd (ms_copyS (f := 0) (t := 924) v6 (by decide) (by decide) (by omega) hA.2.1.1) ?_
        rintro _ τ ⟨hS0, hq0⟩
        refine wp_eq (show sL 249 30 (lN G) τ = some ((), (τ.1, up2 τ.2.1 249 30 (lN G), τ.2.2)) from rfl) ?_
        have h1 : MyM A.1 σ A.2.1.1 G (τ.1, up2 τ.2.1 249 30 (lN G), τ.2.2) := ⟨hS0, show up2 τ.2.1 249 30 (lN G) 249 30 = lN G from up2L_at, fun b j n => hq0.1 b j (fun q => n (by unfold RtM; omega)), fun b j n => (show up2 τ.2.1 249 30 (lN G) b j = τ.2.1 b j from up2L_ne (by omega)).trans (by rw [hq0.2])⟩
        generalize ((τ.1, up2 τ.2.1 249 30 (lN G), τ.2.2) : MM) = τ1 at h1
        have fin : ∀ (S : SK) (G2 : Nat) (r : Int32) (υ : MM), MyM A.1 σ S G2 υ → r = (if z = 0 then (myF A.1 A.2.1.1 G n).2.2.1 else if z = 1 then (myF A.1 A.2.1.1 G n).2.2.2 else hgS A.1 (myF A.1 A.2.1.1 G n).1) → (r = (if z = 0 then (myF A.1 A.2.1.1 G n).2.2.1 else if z = 1 then (myF A.1 A.2.1.1 G n).2.2.2 else hgS A.1 (myF A.1 A.2.1.1 G n).1) ∧ MA A υ ∧ ofM σ υ) := by
          intro S G2 r υ h hr
          refine ⟨hr, MA_g hV (fun b j hb hs => h.2.2.1 b j (fun q => hs (RtM_sc b j q).2)) (fun b j q1 => h.2.2.2 b j (by omega)) hA, fun b j hb => h.2.2.1 b j (fun q => by unfold RtM at q; omega), fun b j hb => h.2.2.2 b j (by omega)⟩
        refine ws_it (fun k s υ => s = ((myF A.1 A.2.1.1 G k).2.2.1, (myF A.1 A.2.1.1 G k).2.2.2, nI k) ∧ MyM A.1 σ (myF A.1 A.2.1.1 G k).1 (myF A.1 A.2.1.1 G k).2.1 υ) n (by omega) ⟨rfl, h1⟩ ?_
        rintro k s υ hk ⟨rfl, hq⟩
        by_cases hkn : k < n
        · rw [if_neg (nle_n hkn (by omega))]
          obtain ⟨vS, vG⟩ := myF_ok hV.1 hV.2.1.1 (show G < 2147483648 by omega) k
          have e3 : (myF A.1 A.2.1.1 G (k + 1)).2.2.1 = (if thB A.1 (myF A.1 A.2.1.1 G (k + 1)).1 = true then (myF A.1 A.2.1.1 G k).2.2.1 else (myF A.1 A.2.1.1 G k).2.2.1 + 1) := rfl
          have e4 : (myF A.1 A.2.1.1 G (k + 1)).2.2.2 = (if (dwO A.1 (myF A.1 A.2.1.1 G k).1 (myF A.1 A.2.1.1 G k).2.1).2.2 = true then (myF A.1 A.2.1.1 G k).2.2.2 + 1 else (myF A.1 A.2.1.1 G k).2.2.2) := rfl
          have e1 : (myF A.1 A.2.1.1 G (k + 1)).1 = paS A.1 (dwO A.1 (myF A.1 A.2.1.1 G k).1 (myF A.1 A.2.1.1 G k).2.1).1 true := rfl
          have e2 : (myF A.1 A.2.1.1 G (k + 1)).2.1 = (dwO A.1 (myF A.1 A.2.1.1 G k).1 (myF A.1 A.2.1.1 G k).2.1).2.1 := rfl
          have e4' : (myF A.1 A.2.1.1 G (k + 1)).2.2.2 = (myF A.1 A.2.1.1 G k).2.2.2 + b2i (dwO A.1 (myF A.1 A.2.1.1 G k).1 (myF A.1 A.2.1.1 G k).2.1).2.2 := by
            rw [e4]
            cases (dwO A.1 (myF A.1 A.2.1.1 G k).1 (myF A.1 A.2.1.1 G k).2.1).2.2 <;> simp [b2i]
          have e3' : (myF A.1 A.2.1.1 G (k + 1)).2.2.1 = (myF A.1 A.2.1.1 G k).2.2.1 + b2i (!thB A.1 (myF A.1 A.2.1.1 G (k + 1)).1) := by
            rw [e3]
            cases thB A.1 (myF A.1 A.2.1.1 G (k + 1)).1 <;> simp [b2i]
          refine wp_eq (ms_lines (mym_T hq hA.1)) ?_
          refine wp_bd (Q := fun r ω => r = b2i (dwO A.1 (myF A.1 A.2.1.1 G k).1 (myF A.1 A.2.1.1 G k).2.1).2.2 ∧ MyM A.1 σ (dwO A.1 (myF A.1 A.2.1.1 G k).1 (myF A.1 A.2.1.1 G k).2.1).1 (dwO A.1 (myF A.1 A.2.1.1 G k).1 (myF A.1 A.2.1.1 G k).2.1).2.1 ω) ?_ ?_
          · unfold dwO
            by_cases z1 : A.1.1 0 = 0
            · rw [if_pos (show nI (A.1.1 0) ≤ 0 by rw [z1]; decide), if_pos z1]
              exact wp_pu ⟨rfl, hq⟩
            · rw [if_neg (show ¬ nI (A.1.1 0) ≤ 0 from nI_nle (by omega) (by omega)), if_neg z1]
              refine wp_eq (ms_cloths (mym_T hq hA.1)) ?_
              by_cases z2 : A.1.1 2 = 0
              · rw [if_pos (show nI (A.1.1 2) ≤ 0 by rw [z2]; decide), if_pos z2]
                exact wp_pu ⟨rfl, hq⟩
              · rw [if_neg (show ¬ nI (A.1.1 2) ≤ 0 from nI_nle (by omega) (by omega)), if_neg z2]
                refine wp_bd (m_drawOne hV.1 hA.1 vS vG (by omega) (by omega) hq) ?_
                rintro r ω ⟨rfl, h2⟩
                generalize hd : (dwS A.1 (myF A.1 A.2.1.1 G k).1 (myF A.1 A.2.1.1 G k).2.1) = d at h2
                cases hb2 : d.2.2 with
                | false =>
                  rw [if_pos (show b2i false = 0 from rfl)]
                  exact wp_pu ⟨rfl, h2⟩
                | true =>
                  rw [if_neg (show ¬ b2i true = 0 by decide)]
                  exact wp_pu ⟨rfl, h2⟩
          · rintro r ω ⟨rfl, h2⟩
            obtain ⟨vS2, vG2⟩ := dwO_ok hV.1 vS vG
            rw [lt_eq, ← e4']
            refine wp_bd (ms_pass (b := 924) hV.1 (mym_T h2 hA.1) okBo h2.1 vS2 true) ?_
            rintro r2 ω2 ⟨-, g1, g2⟩
            have h3 := mym_r h2 (eqr_mono g2 (fun b j z => by unfold RtM; omega)) g1
            rw [← e1, ← e2] at h3
            obtain ⟨b, eb, hbt⟩ := ms_isThunder (b := 924) hV.1 (mym_T h3 hA.1) okBo h3.1 (by rw [e1]; exact VSk_pa vS2)
            refine wp_eq eb ?_
            rw [th_b hbt]
            refine wp_eq (x := b2i (!thB A.1 (myF A.1 A.2.1.1 G (k + 1)).1)) (τ := ω2) ?_ ?_
            · cases thB A.1 (myF A.1 A.2.1.1 G (k + 1)).1 <;> rfl
            rw [lt_eq, lt_eq, ← e3']
            exact wp_pu (Or.inl ⟨_, rfl, hkn, by rw [nI_1], h3⟩)
        · have : k = n := by omega
          rw [if_pos (nI_le (by omega) (by omega))]
          refine wp_pu (Or.inr ⟨_, rfl, ?_⟩)
          rw [this] at hq ⊢
          by_cases z0 : z = 0
          · rw [if_pos z0]
            exact wp_eq (show pu _ υ = some (_, υ) from rfl) (wp_pu (fin _ _ _ υ hq (by rw [if_pos z0])))
          · rw [if_neg z0]
            by_cases z1 : z = 1
            · rw [if_pos z1]
              exact wp_eq (show pu _ υ = some (_, υ) from rfl) (wp_pu (fin _ _ _ υ hq (by rw [if_neg z0, if_pos z1])))
            · rw [if_neg z1]
              have eh : FX12_hanging 249 (924 : Int32) υ = _ := ms_hanging (b := 924) hV.1 (mym_T hq hA.1) okBo hq.1 (myF_ok hV.1 hV.2.1.1 (by omega) n).1
              exact bd_asw (wp_eq eh (wp_eq (show pu _ υ = some (_, υ) from rfl) (wp_pu (fin _ _ _ υ hq (by rw [if_neg z0, if_neg z1])))))
      · rw [if_pos (bf w3)]
        exact no (fun h => w3 (ma_ok h).2.2)
    · rw [if_pos (bf w2)]
      refine no (fun h => w2 ?_)
      unfold maB at h
      rw [Bool.and_eq_true, Bool.and_eq_true (decide (¬ y < 1) && decide (¬ 99 < y))] at h
      exact h.2.1
  · rw [if_pos (bf w1)]
    refine no (fun h => w1 ?_)
    unfold maB at h
    rw [Bool.and_eq_true] at h
    exact h.1
theorem ok_30 {σ : MM} (h : Inv σ) (q : Nat → Int32) : okC (fun chk => TL_30 chk q) σ := by
  obtain ⟨A, hV, hC, hM⟩ := h
  exact okC_of (eq := fun x y => x = y) rfl hV hV hM (c_mays hV hC (q 1) (q 2) (q 3)) (fun τ hM => m_mays hV hM (q 1) (q 2) (q 3))
