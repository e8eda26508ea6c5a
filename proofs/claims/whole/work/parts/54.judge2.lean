/-! ===== judged, the model's ===== -/
theorem mt_dried {T : TW} {S : SK} {σ : MM} (hV : VTn T) (hT : MTn T σ) (hv : VSk T S) (hS : MSk T 882 S σ) : FX12_driedOf 249 (882 : Int32) σ = some (driS T S, σ) := by
  have h6 := hV.1.2.2.1
  have hc := ms_cloths hT
  unfold FX12_driedOf
  refine (bd_it (fun k => (hmF (lsP T S) k, nI k)) (T.1 2) rfl ?_ ?_ (by omega)).trans rfl
  · intro k hk
    have e1 : FX12_doesHang 249 (882 : Int32) (nI k) σ = some (decide (¬ S 1 k = -1), σ) := ms_doesHang (b := 882) hV okBt hS hv hk
    have e2 : FX12_isWet 249 (882 : Int32) (nI k) σ = some (decide (¬ S 0 k ≤ 0), σ) := ms_isWet (b := 882) hV okBt hS hk
    by_cases q1 : S 1 k = -1
    · simp [bd, hc, nle_n hk (by omega), e1, q1, hmF, lsP, lt, pu, nI_1, b2i]
    · by_cases q2 : S 0 k ≤ 0 <;> simp [bd, hc, nle_n hk (by omega), e1, e2, q1, q2, hmF, lsP, lt, pu, nI_1, b2i]
  · refine (ev_bd hc).trans ?_
    rw [if_pos (le_nn (by omega))]
    rfl
theorem jn_0 {T : TW} {S : SK} {c l k : Nat} (hc : c < 100) (hl : l < 100) : jcan T S (nI 0) (nI c) (nI l) (nI k) = (decide (S 1 c = -1) && decide (¬ frS T S l < nI k)) ∧ jnew T S (nI 0) (nI c) (nI l) (nI k) = if (decide (S 1 c = -1) && decide (¬ frS T S l < nI k)) = true then puS S c (nI l) (nI k) else S := by
  have ej : jcan T S (nI 0) (nI c) (nI l) (nI k) = (decide (S 1 c = -1) && decide (¬ frS T S l < nI k)) := by
    unfold jcan
    rw [if_neg (by decide), if_pos (by decide), cl_n (by omega), cl_n (by omega)]
  refine ⟨ej, ?_⟩
  unfold jnew
  rw [ej, if_neg (show ¬ nI 0 = 3 by decide), if_pos (show nI 0 = 0 from rfl), cl_n (by omega)]
theorem jn_1 {T : TW} {S : SK} {c : Nat} {y z : Int32} (hc : c < 100) : jcan T S (nI 1) (nI c) y z = decide (¬ S 1 c = -1) ∧ jnew T S (nI 1) (nI c) y z = if decide (¬ S 1 c = -1) = true then dnS S c else S := by
  have ej : jcan T S (nI 1) (nI c) y z = decide (¬ S 1 c = -1) := by
    unfold jcan
    rw [if_neg (by decide), if_neg (by decide), if_pos (by decide), cl_n (by omega)]
  refine ⟨ej, ?_⟩
  unfold jnew
  rw [ej, if_neg (show ¬ nI 1 = 3 by decide), if_neg (show ¬ nI 1 = 0 by decide), if_pos (show nI 1 = 1 from rfl), cl_n (by omega)]
theorem jn_2 {T : TW} {S : SK} {c : Nat} {y z : Int32} (hc : c < 100) : jcan T S (nI 2) (nI c) y z = decide (S 1 c = -1) ∧ jnew T S (nI 2) (nI c) y z = if decide (S 1 c = -1) = true then soS T S c else S := by
  have ej : jcan T S (nI 2) (nI c) y z = decide (S 1 c = -1) := by
    unfold jcan
    rw [if_neg (by decide), if_neg (by decide), if_neg (by decide), cl_n (by omega)]
  refine ⟨ej, ?_⟩
  unfold jnew
  rw [ej, if_neg (show ¬ nI 2 = 3 by decide), if_neg (show ¬ nI 2 = 0 by decide), if_neg (show ¬ nI 2 = 1 by decide), cl_n (by omega)]
theorem jn_3 {T : TW} {S : SK} {x y z : Int32} : jcan T S (nI 3) x y z = true ∧ jnew T S (nI 3) x y z = paS T S true := by
  refine ⟨?_, ?_⟩
  · unfold jcan; rw [if_pos (by decide)]
  · unfold jnew; rw [if_pos (by decide)]
theorem jw_b {b : Bool} {w : Int32} {i : Nat} (hw : w = -1 ∨ ∃ k, k < 1000 ∧ w = nI k) (σ : MM) : (if b2i b = 0 then if 0 ≤ w then pu w else pu (nI i) else pu w : PP Int32) σ = some (jw b w i, σ) := by
  have := pos_m1 hw
  unfold jw
  cases b
  · rw [if_pos (show b2i false = 0 from rfl), if_neg (show ¬ false = true by decide)]
    by_cases z : w = -1
    · rw [if_pos z, if_neg (by rw [this]; simp [z])]; rfl
    · rw [if_neg z, if_pos (by rw [this]; exact z)]; rfl
  · rw [if_neg (show ¬ b2i true = 0 by decide), if_pos rfl]; rfl
theorem m_judged {A : AB} {σ : MM} (hV : VA A) (hA : MA A σ) (x : Int32) : wp (FX12_judged 249 x) σ (fun r τ => r = juR A x ∧ MA A τ ∧ ofM σ τ) := by
  have v6 := hV.1.1.2.2.1
  have v5 := hV.1.1.1
  have vn := hV.2.2.2.1.1
  have vr : ∀ i, i < A.2.2.2.1.1 → okRow A.1 A.2.2.2.1 i := hV.2.2.2.1.2
  unfold FX12_judged
  refine mq_w hV hA (R := RtM) (fun σ hA => ?_) RtM_sc
  unfold juR
  rw [r249_20, r249_23]
  refine wp_eq (ms_within x 0 2 σ) ?_
  by_cases w : (decide (¬ x < 0) && decide (¬ 2 < x)) = true
  · rw [if_pos w, if_neg (bt w)]
    refine wp_bd (ms_starts (b := 882) hV.1 hA.1 okBt) ?_
    rintro _ τ ⟨hS0, hq0⟩
    have hq0' : eqr RtM σ τ := eqr_mono hq0 (fun b j z => by unfold RtM; omega)
    refine ws_it (fun i s ω => s = ((jst A.1 A.2.2.2.1 i).2.1, (jst A.1 A.2.2.2.1 i).2.2, nI i) ∧ TrM A.1 σ (jst A.1 A.2.2.2.1 i).1 ω) A.2.2.2.1.1 (by omega) ⟨rfl, hS0, hq0'⟩ ?_
    rintro i s ω hi ⟨rfl, hq⟩
    have hT : MTn A.1 ω := tm_T hq.2 hA.1
    have hP : MPl A.2.2.2.1 ω := MPl_r hq.2 vn (fun j _ z => by unfold RtM at z; omega) hA.2.2.2.1
    refine ws_a (i := 0) (by decide) (by decide) hP.1 ?_
    by_cases hin : i < A.2.2.2.1.1
    · rw [if_neg (nle_n hin (by omega))]
      have ix : ∀ o, o < 10 → nI o + (4 : Int32) * nI i = nI (o + 4 * i) := fun o _ => by rw [show (4 : Int32) = nI 4 from rfl, pk_mul, nI_add]
      have i1 : (1 : Int32) + (4 : Int32) * nI i = nI (1 + 4 * i) := ix 1 (by decide)
      have i2 : (2 : Int32) + (4 : Int32) * nI i = nI (2 + 4 * i) := ix 2 (by decide)
      have i3 : (3 : Int32) + (4 : Int32) * nI i = nI (3 + 4 * i) := ix 3 (by decide)
      have i4 : (4 : Int32) + (4 : Int32) * nI i = nI (4 + 4 * i) := ix 4 (by decide)
      obtain ⟨p1, p2, p3, p4⟩ := hP.2 i hin
      show wp (bd (aI 262 330 ((1 : Int32) + (4 : Int32) * nI i)) (fun x5 => bd (aI 262 330 ((2 : Int32) + (4 : Int32) * nI i)) (fun x6 => bd (aI 262 330 ((3 : Int32) + (4 : Int32) * nI i)) (fun x7 => bd (aI 262 330 ((4 : Int32) + (4 : Int32) * nI i)) _)))) ω _
      rw [i1, i2, i3, i4]
      refine ws_a (by omega) (by decide) p1 (ws_a (by omega) (by decide) p2 (ws_a (by omega) (by decide) p3 (ws_a (by omega) (by decide) p4 ?_)))
      obtain ⟨x1, x2⟩ := jst_ex (T := A.1) (P := A.2.2.2.1) i (by omega)
      have hr := vr i hin
      have hvS := VSk_js hV.1 vr i (by omega)
      have hvN : VSk A.1 (jst A.1 A.2.2.2.1 (i + 1)).1 := VSk_js hV.1 vr (i + 1) (by omega)
      have e1 : (jst A.1 A.2.2.2.1 (i + 1)).1 = jnew A.1 (jst A.1 A.2.2.2.1 i).1 (A.2.2.2.1.2 0 i) (A.2.2.2.1.2 1 i) (A.2.2.2.1.2 2 i) (A.2.2.2.1.2 3 i) := rfl
      have e2 : (jst A.1 A.2.2.2.1 (i + 1)).2.1 = jw (jcan A.1 (jst A.1 A.2.2.2.1 i).1 (A.2.2.2.1.2 0 i) (A.2.2.2.1.2 1 i) (A.2.2.2.1.2 2 i) (A.2.2.2.1.2 3 i)) (jst A.1 A.2.2.2.1 i).2.1 i := rfl
      have e3 : (jst A.1 A.2.2.2.1 (i + 1)).2.2 = jw (!thB A.1 (jst A.1 A.2.2.2.1 (i + 1)).1) (jst A.1 A.2.2.2.1 i).2.2 i := rfl
      have fin : ∀ (τ1 : MM), TrM A.1 σ (jst A.1 A.2.2.2.1 (i + 1)).1 τ1 → wp (bd (if 0 ≤ (jst A.1 A.2.2.2.1 i).2.2 then pu (jst A.1 A.2.2.2.1 i).2.2 else bd (FX12_isThunder 249 (882 : Int32)) (fun x23 => if ((b2i x23)) = 0 then pu (jst A.1 A.2.2.2.1 i).2.2 else pu (nI i)) : PP (Int32)) (fun (v24 : Int32) => lt (nI i + (1 : Int32)) (fun y25 => pu (Sum.inl ((jst A.1 A.2.2.2.1 (i + 1)).2.1, v24, y25)))) : PP ((Int32 × Int32 × Int32) ⊕ (Int32 × Int32))) τ1 (fun r υ => (∃ a', r = .inl a' ∧ i < A.2.2.2.1.1 ∧ (a' = ((jst A.1 A.2.2.2.1 (i + 1)).2.1, (jst A.1 A.2.2.2.1 (i + 1)).2.2, nI (i + 1)) ∧ TrM A.1 σ (jst A.1 A.2.2.2.1 (i + 1)).1 υ)) ∨ (∃ b, r = .inr b ∧ wp (bd (if x = 0 then pu b.1 else if x = (1 : Int32) then pu b.2 else bd (FX12_driedOf 249 (882 : Int32)) (fun x27 => pu x27) : PP (Int32)) (fun (v28 : Int32) => pu v28)) υ (fun y υ => y = (if x = 0 then (jst A.1 A.2.2.2.1 A.2.2.2.1.1).2.1 else if x = 1 then (jst A.1 A.2.2.2.1 A.2.2.2.1.1).2.2 else driS A.1 (jst A.1 A.2.2.2.1 A.2.2.2.1.1).1) ∧ eqr RtM σ υ))) := by
        intro τ1 h1
        have := pos_m1 x2
        rw [e3]
        generalize (jst A.1 A.2.2.2.1 i).2.2 = w0 at this
        obtain ⟨b, eb, hb⟩ := ms_isThunder (b := 882) hV.1 (tm_T h1.2 hA.1) okBt h1.1 hvN
        refine wp_eq (x := jw (!thB A.1 (jst A.1 A.2.2.2.1 (i + 1)).1) w0 i) (τ := τ1) ?_ ?_
        · by_cases z : w0 = -1
          · rw [if_neg (by rw [this]; simp [z])]
            refine (ev_bd eb).trans ?_
            rw [← th_b hb]
            unfold jw
            cases b
            · rw [if_pos (show b2i false = 0 from rfl)]; rfl
            · rw [if_neg (show ¬ b2i true = 0 by decide), if_neg (by decide), if_pos z]; rfl
          · rw [if_pos (by rw [this]; exact z)]
            unfold jw
            rw [if_neg z]
            split <;> rfl
        · rw [lt_eq]
          exact wp_pu (Or.inl ⟨_, rfl, hin, by rw [nI_1], h1⟩)
      obtain ⟨d, hd, ed⟩ := hr.1
      rcases (show d = 0 ∨ d = 1 ∨ d = 2 ∨ d = 3 by omega) with rfl | rfl | rfl | rfl
      · obtain ⟨⟨l, hl, el⟩, k, hk1, hk3, ek⟩ := hr.2.2 ed
        obtain ⟨c, hc, ec⟩ := hr.2.1 (by rw [ed]; decide)
        rw [ed, ec, el, ek] at e1 e2
        rw [ed, ec, el, ek]
        rw [if_neg (show ¬ nI 0 = 3 by decide), if_pos (show nI 0 = 0 from rfl)]
        obtain ⟨j1, j2⟩ := jn_0 (T := A.1) (S := (jst A.1 A.2.2.2.1 i).1) (k := k) (show c < 100 by omega) (show l < 100 by omega)
        rw [j1] at e2
        rw [j2] at e1
        have em : FX12_mayHang 249 (882 : Int32) (nI c) (nI l) (nI k) ω = some (decide ((jst A.1 A.2.2.2.1 i).1 1 c = -1) && decide (¬ frS A.1 (jst A.1 A.2.2.2.1 i).1 l < nI k), ω) := ms_mayHang (b := 882) hV.1 hT okBt hq.1 hvS hc hl (nI k)
        generalize (decide ((jst A.1 A.2.2.2.1 i).1 1 c = -1) && decide (¬ frS A.1 (jst A.1 A.2.2.2.1 i).1 l < nI k)) = can at em e1 e2
        refine wp_eq (x := b2i can) (τ := ω) ?_ ?_
        · refine (ev_bd em).trans ?_
          cases can <;> rfl
        refine wp_eq (jw_b (b := can) (i := i) x1 ω) ?_
        rw [← e2]
        refine wp_bd (Q := fun _ τ1 => TrM A.1 σ (jst A.1 A.2.2.2.1 (i + 1)).1 τ1) ?_ (fun _ τ1 h1 => fin τ1 h1)
        rw [if_neg (show ¬ nI 0 = 3 by decide), jn_eq, jn_eq, e1]
        cases can
        · rw [if_pos (show b2i false = 0 from rfl), if_pos (show b2i false = 0 from rfl), if_pos (show b2i false = 0 from rfl), if_neg (by decide)]
          exact wp_pu hq
        · rw [if_neg (show ¬ b2i true = 0 by decide), if_pos (show nI 0 = 0 from rfl), if_pos rfl]
          obtain ⟨τ1, e, g1, g2⟩ := ms_hangs (b := 882) (l := nI l) (k := nI k) v6 okBt hq.1 hc
          exact wp_eq e (wp_pu ⟨g1, eqr_tr hq.2 (eqr_mono g2 (fun b j z => by unfold RtM; omega))⟩)
      · obtain ⟨c, hc, ec⟩ := hr.2.1 (by rw [ed]; decide)
        rw [ed, ec] at e1 e2
        rw [ed, ec]
        rw [if_neg (show ¬ nI 1 = 3 by decide), if_neg (show ¬ nI 1 = 0 by decide), if_pos (show nI 1 = 1 from rfl)]
        obtain ⟨j1, j2⟩ := jn_1 (T := A.1) (S := (jst A.1 A.2.2.2.1 i).1) (y := A.2.2.2.1.2 2 i) (z := A.2.2.2.1.2 3 i) (show c < 100 by omega)
        rw [j1] at e2
        rw [j2] at e1
        have em : FX12_doesHang 249 (882 : Int32) (nI c) ω = some (decide (¬ (jst A.1 A.2.2.2.1 i).1 1 c = -1), ω) := ms_doesHang (b := 882) hV.1 okBt hq.1 hvS hc
        generalize decide (¬ (jst A.1 A.2.2.2.1 i).1 1 c = -1) = can at em e1 e2
        refine wp_eq (x := b2i can) (τ := ω) ?_ ?_
        · refine (ev_bd (show pu (1 : Int32) ω = some (1, ω) from rfl)).trans ((ev_bd em).trans ?_)
          cases can <;> rfl
        refine wp_eq (jw_b (b := can) (i := i) x1 ω) ?_
        rw [← e2]
        refine wp_bd (Q := fun _ τ1 => TrM A.1 σ (jst A.1 A.2.2.2.1 (i + 1)).1 τ1) ?_ (fun _ τ1 h1 => fin τ1 h1)
        rw [if_neg (show ¬ nI 1 = 3 by decide), jn_eq, jn_eq, e1]
        cases can
        · rw [if_pos (show b2i false = 0 from rfl), if_pos (show b2i false = 0 from rfl), if_pos (show b2i false = 0 from rfl), if_neg (by decide)]
          exact wp_pu hq
        · rw [if_neg (show ¬ b2i true = 0 by decide), if_neg (show ¬ nI 1 = 0 by decide), if_neg (show ¬ b2i true = 0 by decide), if_pos (show nI 1 = 1 from rfl), if_pos rfl]
          obtain ⟨τ1, e, g1, g2⟩ := ms_comesDown (b := 882) v6 okBt hq.1 hc
          exact wp_eq e (wp_pu ⟨g1, eqr_tr hq.2 (eqr_mono g2 (fun b j z => by unfold RtM; omega))⟩)
      · obtain ⟨c, hc, ec⟩ := hr.2.1 (by rw [ed]; decide)
        rw [ed, ec] at e1 e2
        rw [ed, ec]
        rw [if_neg (show ¬ nI 2 = 3 by decide), if_neg (show ¬ nI 2 = 0 by decide), if_neg (show ¬ nI 2 = 1 by decide)]
        obtain ⟨j1, j2⟩ := jn_2 (T := A.1) (S := (jst A.1 A.2.2.2.1 i).1) (y := A.2.2.2.1.2 2 i) (z := A.2.2.2.1.2 3 i) (show c < 100 by omega)
        rw [j1] at e2
        rw [j2] at e1
        have em : FX12_doesHang 249 (882 : Int32) (nI c) ω = some (decide (¬ (jst A.1 A.2.2.2.1 i).1 1 c = -1), ω) := ms_doesHang (b := 882) hV.1 okBt hq.1 hvS hc
        have en : decide (¬ (jst A.1 A.2.2.2.1 i).1 1 c = -1) = !decide ((jst A.1 A.2.2.2.1 i).1 1 c = -1) := by simp
        rw [en] at em
        generalize decide ((jst A.1 A.2.2.2.1 i).1 1 c = -1) = can at em e1 e2
        refine wp_eq (x := b2i can) (τ := ω) ?_ ?_
        · refine (ev_bd (show pu (0 : Int32) ω = some (0, ω) from rfl)).trans ((ev_bd em).trans ?_)
          cases can <;> rfl
        refine wp_eq (jw_b (b := can) (i := i) x1 ω) ?_
        rw [← e2]
        refine wp_bd (Q := fun _ τ1 => TrM A.1 σ (jst A.1 A.2.2.2.1 (i + 1)).1 τ1) ?_ (fun _ τ1 h1 => fin τ1 h1)
        rw [if_neg (show ¬ nI 2 = 3 by decide), jn_eq, jn_eq, e1]
        cases can
        · rw [if_pos (show b2i false = 0 from rfl), if_pos (show b2i false = 0 from rfl), if_pos (show b2i false = 0 from rfl), if_neg (by decide)]
          exact wp_pu hq
        · rw [if_neg (show ¬ b2i true = 0 by decide), if_neg (show ¬ nI 2 = 0 by decide), if_neg (show ¬ b2i true = 0 by decide), if_neg (show ¬ nI 2 = 1 by decide), if_neg (show ¬ b2i true = 0 by decide), if_pos rfl]
          refine wp_eq (ms_soaked hV.1 hT hc) ?_
          rw [show (883 : Int32) + nI c = nI (882 + 1 + c) from nI_add 883 c]
          refine ws_u (by omega) (by decide) (wp_pu ⟨ms_soak v6 hq.1 hc, eqr_tr hq.2 (eqr_up ?_)⟩)
          unfold RtM
          omega
      · rw [ed] at e1 e2
        rw [ed]
        rw [if_pos (show nI 3 = 3 from rfl)]
        rw [jn_3.1] at e2
        rw [jn_3.2] at e1
        refine wp_eq (show pu (1 : Int32) ω = some (b2i true, ω) from rfl) ?_
        refine wp_eq (jw_b (b := true) (i := i) x1 ω) ?_
        rw [← e2]
        refine wp_bd (Q := fun _ τ1 => TrM A.1 σ (jst A.1 A.2.2.2.1 (i + 1)).1 τ1) ?_ (fun _ τ1 h1 => fin τ1 h1)
        rw [if_pos (show nI 3 = 3 from rfl), e1]
        refine wp_bd (mt_pass hV.1 hA.1 hvS hq true) ?_
        rintro r τ1 ⟨-, h2⟩
        exact wp_pu h2
    · have : i = A.2.2.2.1.1 := by omega
      rw [if_pos (nI_le (by omega) (by omega))]
      refine wp_pu (Or.inr ⟨_, rfl, ?_⟩)
      rw [this] at hq ⊢
      by_cases x0 : x = 0
      · rw [if_pos x0, if_pos x0]
        exact wp_eq (show pu _ ω = some (_, ω) from rfl) (wp_pu ⟨rfl, hq.2⟩)
      · rw [if_neg x0, if_neg x0]
        by_cases x1 : x = 1
        · rw [if_pos x1, if_pos x1]
          exact wp_eq (show pu _ ω = some (_, ω) from rfl) (wp_pu ⟨rfl, hq.2⟩)
        · rw [if_neg x1, if_neg x1]
          have := mt_dried hV.1 hT (VSk_js hV.1 vr _ (Nat.le_refl _)) hq.1
          exact bd_asw (wp_eq this (wp_eq (show pu _ ω = some (_, ω) from rfl) (wp_pu ⟨rfl, hq.2⟩)))
  · rw [if_neg w, if_pos (bf w)]
    exact wp_pu ⟨rfl, eqr_rf⟩
theorem ok_11 {σ : MM} (h : Inv σ) (q : Nat → Int32) : okC (fun chk => TL_11 chk q) σ := by
  obtain ⟨A, hV, hC, hM⟩ := h
  exact okC_of (eq := fun x y => x = y) rfl hV hV hM (cq_w hC (c_judged hV hC (q 1)) RjC_sc) (fun τ hM => m_judged hV hM (q 1))
