/-! ===== wish ===== -/
def RvC (b : Nat) (_ : Nat) : Prop := b = 14 ∨ (42 ≤ b ∧ b ≤ 47) ∨ b = 132 ∨ b = 133
theorem RvC_sc (b j : Nat) (h : RvC b j) : b < 249 ∧ scC b j := by unfold RvC at h; unfold scC; omega
theorem c_useful {T : TW} {S : SK} {W : Nat → Int32} {τ : MM} (hV : VTn T) (vW : VWa T W) (hT : CTn T τ) (hW : CWa 131 W τ) : wp (FX9_findUsefulLines 130) τ (fun _ υ => eqr (fun b _ => b = 133) τ υ ∧ ∀ j, j < 4 → ∀ l, l < 5 → (((υ.1 133 j >>> (nI l &&& 31)) &&& 1 = 1) ↔ usf (PW T S W) j l)) := by
  have v4 := hV.1.2.1
  unfold FX9_findUsefulLines
  rw [r130_0, r130_2, r130_3, sk0 o43, r3_5]
  refine ws_it (fun k s υ => s = nI k ∧ eqr (fun b _ => b = 133) τ υ ∧ ∀ i, i < k → υ.1 133 i = 0) 4 (by decide) ⟨rfl, eqr_rf, fun i hi => by omega⟩ ?_
  rintro k s υ hk ⟨rfl, h1, h2⟩
  by_cases hk4 : k < 4
  · rw [if_neg (show ¬ (4 : Int32) ≤ nI k from nle_n hk4 (by decide))]
    refine ws_u hk4 (by decide) ?_
    rw [lt_eq]
    refine wp_pu (Or.inl ⟨_, rfl, hk4, nI_1 k, eqr_tr h1 (eqr_up rfl), fun i hi => ?_⟩)
    show up2 υ.1 133 k 0 133 i = _
    by_cases z : i = k
    · rw [z]; exact up2_at
    · rw [up2_ne (by omega)]; exact h2 i (by omega)
  · have : k = 4 := by omega
    subst this
    rw [if_pos (show (4 : Int32) ≤ nI 4 by decide)]
    refine wp_pu (Or.inr ⟨_, rfl, ?_⟩)
    refine ws_it (fun k s ω => s = nI k ∧ eqr (fun b _ => b = 133) τ ω ∧ ∀ j, j < 4 → ∀ l, l < 5 → (((ω.1 133 j >>> (nI l &&& 31)) &&& 1 = 1) ↔ ∃ p, p < k ∧ wnN (W p) = j ∧ abN T p l = true)) (T.1 1) (by omega) ⟨rfl, h1, fun j hj l hl => ?_⟩ ?_
    · rw [h2 j hj, zshr l (by omega)]
      exact ⟨fun e => absurd e (by decide), fun ⟨p, hp, _⟩ => by omega⟩
    rintro k s ω hk ⟨rfl, g1, g2⟩
    have hTω : CTn T ω := CTn_r g1 (fun b j _ _ => by omega) hT
    refine ws_gv hTω.1.2.1 ?_
    by_cases hkn : k < T.1 1
    · rw [if_neg (nle_n hkn (by omega))]
      have eW : ω.1 131 k = W k := (g1.1 _ _ (by omega)).trans (hW k (by omega))
      refine ws_a (by omega) (by decide) eW ?_
      have upto : ∀ j l, (∃ p, p < k + 1 ∧ wnN (W p) = j ∧ abN T p l = true) ↔ ((∃ p, p < k ∧ wnN (W p) = j ∧ abN T p l = true) ∨ (wnN (W k) = j ∧ abN T k l = true)) := fun j l => by
        constructor
        · rintro ⟨p, hp, e1, e2⟩
          by_cases z : p = k
          · subst z; exact Or.inr ⟨e1, e2⟩
          · exact Or.inl ⟨p, by omega, e1, e2⟩
        · rintro (⟨p, hp, e1, e2⟩ | ⟨e1, e2⟩)
          · exact ⟨p, by omega, e1, e2⟩
          · exact ⟨k, by omega, e1, e2⟩
      have skip : ¬ wnN (W k) < 4 → W k < 0 → wp (bd (if W k < 0 then pu () else bd (aI 131 4 (nI k)) (fun x7 => bd (aI 133 4 x7) (fun x8 => bd (aI 9 4 (nI k)) (fun x9 => bd (uI 133 4 x7 (x8 ||| x9)) (fun (_ : Unit) => pu ())))) : PP (Unit)) (fun (v10 : Unit) => lt (nI k + (1 : Int32)) (fun y11 => pu (Sum.inl y11)))) ω (fun r ω => (∃ a', r = .inl a' ∧ k < T.1 1 ∧ (a' = nI (k + 1) ∧ eqr (fun b _ => b = 133) τ ω ∧ ∀ j, j < 4 → ∀ l, l < 5 → (((ω.1 133 j >>> (nI l &&& 31)) &&& 1 = 1) ↔ ∃ p, p < k + 1 ∧ wnN (W p) = j ∧ abN T p l = true))) ∨ (∃ b : Unit, r = .inr b ∧ wp ((fun (v12 : Unit) => pu ()) b) ω (fun _ υ => eqr (fun b _ => b = 133) τ υ ∧ ∀ j, j < 4 → ∀ l, l < 5 → (((υ.1 133 j >>> (nI l &&& 31)) &&& 1 = 1) ↔ usf (PW T S W) j l)))) := fun e1 e2 => by
        rw [if_pos e2]
        refine wp_eq (show pu () ω = some ((), ω) from rfl) ?_
        rw [lt_eq]
        refine wp_pu (Or.inl ⟨_, rfl, hkn, nI_1 k, g1, fun j hj l hl => ?_⟩)
        rw [upto, g2 j hj l hl]
        exact ⟨Or.inl, fun e => e.elim id (fun e => by omega)⟩
      rcases (vW k (by omega)).1 with q | q | ⟨w, hw, q⟩
      · exact skip (by rw [q]; decide) (by rw [q]; decide)
      · exact skip (by rw [q]; decide) (by rw [q]; decide)
      · rw [if_neg (by rw [q]; exact nI_pos (by omega))]
        refine wp_bd (Q := fun _ θ => θ = (up2 ω.1 133 w (ω.1 133 w ||| T.2 2 k), ω.2)) ?_ ?_
        · refine ws_a (by omega) (by decide) (eW.trans q) (ws_a hw (by decide) rfl (ws_a (by omega) (by decide) (hTω.2.2.1 k hkn) (ws_u hw (by decide) (wp_pu rfl))))
        · rintro _ θ rfl
          rw [lt_eq]
          refine wp_pu (Or.inl ⟨_, rfl, hkn, nI_1 k, eqr_tr g1 (eqr_up rfl), fun j hj l hl => ?_⟩)
          rw [upto, q, wnN_n hw]
          show ((up2 ω.1 133 w (ω.1 133 w ||| T.2 2 k) 133 j >>> (nI l &&& 31)) &&& 1 = 1) ↔ _
          by_cases z : j = w
          · subst z
            rw [up2_at, or_bit, g2 j hj l hl]
            unfold abN
            simp
          · rw [up2_ne (by omega), g2 j hj l hl]
            exact ⟨Or.inl, fun e => e.elim id (fun e => absurd e.1.symm z)⟩
    · have : k = T.1 1 := by omega
      subst this
      rw [if_pos (le_nn (by omega))]
      exact wp_pu (Or.inr ⟨_, rfl, wp_pu ⟨g1, g2⟩⟩)
theorem skA_0 {T : TW} {S : SK} {g : Nat → Nat} : skA T S (skg S g 0) := fun k _ => by
  rw [skg_out (fun e => by omega), skg_out (fun e => by omega), skg_out (fun e => by omega)]
  exact ⟨rfl, rfl, fun _ => rfl⟩
def g0 : Nat → Nat := fun _ => 5
theorem c_fewest {T : TW} {S : SK} {W : Nat → Int32} {σ : MM} (hV : VTn T) (hT : CTn T σ) (hS : CSk T 38 S σ) (hv : VSk T S) (vW : VWa T W) (hW : CWa 131 W σ) (HB : (∃ b, Best (PW T S W) b) ∨ ∀ h, ¬ Sol (PW T S W) h) : wp (FX9_fewest 130 38) σ (fun r υ => eqr RvC σ υ ∧ ((r = -1 ∧ ∀ h, ¬ Sol (PW T S W) h) ∨ ∃ b, Best (PW T S W) b ∧ r = nI (sz (PW T S W) b (T.1 2)) ∧ ∀ k, k < T.1 2 → υ.1 132 k = eI (b k))) := by
  have v5 := hV.1.1
  have v6 := hV.1.2.2.1
  have hO : Okq (PW T S W) := Okq_PW hV
  unfold FX9_fewest
  rw [r130_2]
  obtain ⟨τ1, e1, t1, t2⟩ := kt_copy v6 (eqr_rf (σ := σ)) hS
  refine wp_eq e1 ?_
  have hW1 : CWa 131 W τ1 := CWa_r t2 (fun j q => by unfold RtC at q; omega) hW
  refine wp_bd (c_useful (S := S) hV vW (tc_T t2 hT) hW1) ?_
  rintro _ τ2 ⟨f1, f2⟩
  have hT2 : CTn T τ2 := CTn_r f1 (fun b j _ _ => by omega) (tc_T t2 hT)
  have hW2 : CWa 131 W τ2 := CWa_r f1 (fun j => by omega) hW1
  have hC2 : WC T S g0 0 τ2 := ⟨⟨S, CSk_r f1 (fun j => by omega) (by omega) t1, hv, skA_0⟩, fun k hk => by omega⟩
  have fin : ∀ υ : MM, eqr RsC τ2 υ → eqr RvC σ υ := fun υ h => eqr_tr (eqr_tr (eqr_mono t2 (fun b j z => by unfold RtC at z; unfold RvC; omega)) (eqr_mono f1 (fun b j z => by unfold RvC; omega))) (eqr_mono h (fun b j z => by unfold RsC at z; unfold RvC; omega))
  refine ws_it (fun k s υ => s = nI k ∧ eqr RsC τ2 υ ∧ WC T S g0 0 υ ∧ ∀ m, m < k → ∀ h, ¬ EE (PW T S W) g0 0 m h) 7 (by decide) ⟨rfl, eqr_rf, hC2, fun m hm => by omega⟩ ?_
  rintro k s υ hk ⟨rfl, h1, h2, h3⟩
  by_cases hk7 : k < 7
  · rw [if_neg (show ¬ (6 : Int32) < nI k from nI_nlt (show k ≤ 6 by omega) (by decide))]
    refine wp_bd (c_search (S := S) hV hT2 hv vW hW2 f2 10 0 g0 k υ (by omega) (by omega) (fun i hi => by omega) (by omega) h1 h2) ?_
    rintro r ω ⟨k1, k2, k3, k4⟩
    cases r with
    | false =>
      rw [if_pos (by decide), lt_eq]
      refine wp_pu (Or.inl ⟨_, rfl, hk7, nI_1 k, k1, k2, fun m hm h hE => ?_⟩)
      by_cases z : m = k
      · subst z; exact k3 rfl h hE
      · exact h3 m (by omega) h hE
    | true =>
      rw [if_neg (by decide)]
      obtain ⟨h, p1, p2, p3⟩ := k4 rfl
      obtain ⟨s1, s2⟩ := EE_FF hO.1 p1
      refine wp_pu (Or.inr ⟨_, rfl, wp_pu ⟨fin ω k1, Or.inr ?_⟩⟩)
      rcases HB with ⟨b, hb⟩ | hb
      · have eb := best_EE (g := g0) hO hb
        have hle : ¬ sz (PW T S W) b (qC (PW T S W)) < k := fun z => h3 _ z b eb
        have hs : sz (PW T S W) b (qC (PW T S W)) = k ∧ lxe (T.1 2) b h := by
          rcases hb.2 h s1 with z | ⟨z1, z2⟩
          · omega
          · exact ⟨by omega, z2⟩
        rw [hs.1] at eb
        have heq := lxe_as hs.2 (p2 b eb)
        exact ⟨b, hb, by show nI k = nI (sz (PW T S W) b (qC (PW T S W))); rw [hs.1], fun i hi => by rw [p3 i (by omega) hi, heq i hi]⟩
      · exact absurd s1 (hb h)
  · have : k = 7 := by omega
    subst this
    rw [if_pos (show (6 : Int32) < nI 7 by decide)]
    refine wp_pu (Or.inr ⟨_, rfl, wp_pu ⟨fin υ h1, Or.inl ⟨rfl, ?_⟩⟩⟩)
    rcases HB with ⟨b, hb⟩ | hb
    · have hsz : sz (PW T S W) b (T.1 2) ≤ T.1 2 := zsm_1 (fun k => by unfold hu; split <;> omega)
      exact absurd (best_EE (g := g0) hO hb) (h3 _ (by show sz (PW T S W) b (T.1 2) < 7; omega) b)
    · exact hb
/-! what both answer -/
def wiP (A : AB) : RQ := PW A.1 A.2.1.1 A.2.1.2.1
theorem m_bestW {A : AB} {τ : MM} (hV : VA A) (hA : MA A τ) : wp (bd (sI 249 28 (-1 : Int32)) (fun (_ : Unit) => bd (FX12_triesNow 249) (fun (_ : Unit) => FX12_wishes 10 249 (0 : Int32) (0 : Int32)))) τ (fun _ υ => eqr RwM τ υ ∧ ((υ.1 249 28 = -1 ∧ ∀ h, ¬ Sol (wiP A) h) ∨ ∃ b, Best (wiP A) b ∧ υ.1 249 28 = nI (sz (wiP A) b (A.1.1 2)) ∧ ∀ k, k < A.1.1 2 → υ.1 268 k = eI (b k))) := by
  have v5 := hV.1.1.1
  have v6 := hV.1.1.2.2.1
  have hO : Okq (wiP A) := Okq_PW hV.1
  refine ws_s ?_
  have u1 : eqr RwM τ (up2 τ.1 249 28 (-1), τ.2) := eqr_up (by unfold RwM; omega)
  have hS1 : MSk A.1 0 A.2.1.1 (up2 τ.1 249 28 (-1), τ.2) := wm_S v6 u1 hA.2.1.1
  refine wp_bd (mt_tries v6 eqr_rf hS1) ?_
  rintro _ τ2 ⟨t1, t2⟩
  have t3 : eqr RwM τ τ2 := eqr_tr u1 (eqr_mono t2 (fun b j z => Or.inl z))
  have h28 : τ2.1 249 28 = e7 7 := (t2.1 _ _ (fun q => by unfold RtM at q; omega)).trans (show up2 τ.1 249 28 (-1) 249 28 = _ from up2_at)
  have hw := m_wishes (S := A.2.1.1) (W := A.2.1.2.1) hV.1 hA.1 hA.2.1.1 hV.2.1.1 hV.2.1.2.1 hA.2.1.2.1 (A.1.1 2) 10 0 g0 7 g0 τ2 (by omega) (by omega) (fun i hi => by omega) (by omega) t3 ⟨⟨A.2.1.1, t1, hV.2.1.1, skA_0⟩, fun k hk => by omega, h28, fun h => by omega⟩
  rw [show nI 0 = 0 from nI_0, show nI (sz (PW A.1 A.2.1.1 A.2.1.2.1) g0 0) = 0 from nI_0] at hw
  refine wp_mono hw ?_
  rintro _ υ ⟨k1, f', b', hf', ⟨-, -, w3, w4⟩, hR⟩
  refine ⟨k1, ?_⟩
  have hszl : ∀ h, sz (wiP A) h (qC (wiP A)) ≤ 6 := fun h => by
    have : sz (wiP A) h (A.1.1 2) ≤ A.1.1 2 := zsm_1 (fun k => by unfold hu; split <;> omega)
    show sz (wiP A) h (A.1.1 2) ≤ 6
    omega
  rcases hR with ⟨r1, r2, r3⟩ | ⟨r1, r2, r3, r4⟩
  · refine Or.inl ⟨by rw [w3, r1]; rfl, fun h hs => ?_⟩
    have := r3 h ((FF_sol (g := g0) hO.1).mpr hs)
    have := hszl h
    unfold wiP at this
    omega
  · refine Or.inr ⟨b', ⟨(FF_sol (g := g0) hO.1).mp r2, fun h hs => ?_⟩, ?_, w4 (by omega)⟩
    · have := r4 h ((FF_sol (g := g0) hO.1).mpr hs)
      rw [r3] at this
      exact this
    · rw [w3]
      unfold e7
      rw [if_pos (by omega), r3]
      rfl
theorem ex_best {A : AB} {τ : MM} (hV : VA A) (hA : MA A τ) : (∃ b, Best (wiP A) b) ∨ ∀ h, ¬ Sol (wiP A) h := by
  obtain ⟨r, υ, -, -, h⟩ := m_bestW hV hA
  rcases h with h | ⟨b, h, -⟩
  · exact Or.inr h.2
  · exact Or.inl ⟨b, h⟩
noncomputable def wiR (A : AB) (x : Int32) : Int32 := if x = -1 ∨ inN x (A.1.1 2) = true then (haveI := Classical.propDecidable (∃ b, Best (wiP A) b); if h : ∃ b, Best (wiP A) b then (if x = -1 then nI (sz (wiP A) h.choose (A.1.1 2)) else eI (h.choose x.toNatClampNeg)) else -2) else -2
theorem wiR_no {A : AB} {x : Int32} (h : ∀ h, ¬ Sol (wiP A) h) : wiR A x = -2 := by
  unfold wiR
  have : ¬ ∃ b, Best (wiP A) b := fun ⟨b, hb⟩ => h b hb.1
  rw [dif_neg this]
  split <;> rfl
theorem wiR_b {A : AB} {b : Nat → Nat} (hb : Best (wiP A) b) (v6 : A.1.1 2 ≤ 6) : wiR A (-1) = nI (sz (wiP A) b (A.1.1 2)) ∧ ∀ c, c < A.1.1 2 → c < 6 → wiR A (nI c) = eI (b c) := by
  have he : ∃ b, Best (wiP A) b := ⟨b, hb⟩
  obtain ⟨u1, u2⟩ := Best_un he.choose_spec hb
  refine ⟨?_, fun c hc h6 => ?_⟩
  · unfold wiR
    rw [if_pos (Or.inl rfl), dif_pos he, if_pos rfl]
    exact congrArg nI u1
  · have n1 : ¬ nI c = -1 := fun e => absurd (show nI c < 0 by rw [e]; decide) (nI_pos (by omega))
    unfold wiR
    rw [if_pos (Or.inr (inN_nI hc (by omega))), dif_pos he, if_neg n1, cl_n (by omega), u2 c hc]
theorem c_wish {A : AB} {σ : MM} (hV : VA A) (hA : CA A σ) (HB : (∃ b, Best (wiP A) b) ∨ ∀ h, ¬ Sol (wiP A) h) (x : Int32) : wp (FX11_wish 0 x) σ (fun r τ => r = wiR A x ∧ eqr RvC σ τ) := by
  have v6 := hV.1.1.2.2.1
  unfold FX11_wish jn
  dsimp only
  rw [r0_8, r0_5, r0_1, r130_1]
  have main : x = -1 ∨ inN x (A.1.1 2) = true → wp (bd (FX9_fewest 130 38) (fun x4 => if x4 = (-1 : Int32) then pu (-2 : Int32) else bd (if x = (-1 : Int32) then pu x4 else bd (aI 132 6 x) (fun x5 => pu x5) : PP (Int32)) (fun (v6 : Int32) => pu v6))) σ (fun r τ => r = wiR A x ∧ eqr RvC σ τ) := by
    intro hx
    refine wp_bd (c_fewest hV.1 hA.1 hA.2.1.1 hV.2.1.1 hV.2.1.2.1 hA.2.1.2.1 HB) ?_
    rintro r υ ⟨q1, ⟨rfl, q2⟩ | ⟨b, q2, rfl, q3⟩⟩
    · rw [if_pos rfl]
      exact wp_pu ⟨(wiR_no q2).symm, q1⟩
    · have hsz : sz (PW A.1 A.2.1.1 A.2.1.2.1) b (A.1.1 2) ≤ A.1.1 2 := zsm_1 (fun k => by unfold hu; split <;> omega)
      obtain ⟨w1, w2⟩ := wiR_b q2 v6
      rw [if_neg (fun e => absurd (show nI (sz (PW A.1 A.2.1.1 A.2.1.2.1) b (A.1.1 2)) < 0 by rw [e]; decide) (nI_pos (by omega)))]
      by_cases z : x = -1
      · rw [if_pos z]
        refine wp_eq (show pu _ υ = some (_, υ) from rfl) (wp_pu ⟨?_, q1⟩)
        rw [z, w1]; rfl
      · rw [if_neg z]
        obtain ⟨c, hc, rfl⟩ := inN_ex (by omega) (hx.resolve_left z)
        refine wp_bd (ws_a (P := fun r τ => r = eI (b c) ∧ τ = υ) (by omega) (by decide) (q3 c hc) (wp_pu ⟨rfl, rfl⟩)) ?_
        rintro r τ ⟨rfl, rfl⟩
        exact wp_pu ⟨(w2 c hc (by omega)).symm, q1⟩
  by_cases z : x = -1
  · rw [if_pos z]
    exact main (Or.inl z)
  · rw [if_neg z]
    refine wp_eq (c_hasCloth hA.1.1 x) ?_
    by_cases q : inN x (A.1.1 2) = true
    · rw [if_neg (bt q)]
      exact main (Or.inr q)
    · rw [if_pos (bf q)]
      refine wp_pu ⟨?_, eqr_rf⟩
      unfold wiR
      rw [if_neg (fun e => e.elim z q)]
theorem m_wish {A : AB} {σ : MM} (hV : VA A) (hA : MA A σ) (x : Int32) : wp (FX12_wish 249 x) σ (fun r τ => r = wiR A x ∧ MA A τ ∧ ofM σ τ) := by
  have v6 := hV.1.1.2.2.1
  unfold FX12_wish
  refine mq_w hV hA (R := RwM) (fun σ hA => ?_) RwM_sc
  unfold jn
  dsimp only
  rw [r249_27]
  have main : x = -1 ∨ inN x (A.1.1 2) = true → wp (bd (sI 249 28 (-1 : Int32)) (fun (_ : Unit) => bd (FX12_triesNow 249) (fun (_ : Unit) => bd (FX12_wishes 10 249 (0 : Int32) (0 : Int32)) (fun (_ : Unit) => bd (gI 249 28) (fun x6 => bd (if 0 ≤ x6 then if x = (-1 : Int32) then bd (gI 249 28) (fun x8 => pu x8) else bd (aI 268 6 x) (fun x7 => pu x7) else pu (-2 : Int32) : PP (Int32)) (fun (v9 : Int32) => pu v9)))))) σ (fun r τ => r = wiR A x ∧ eqr RwM σ τ) := by
    intro hx
    have mb := m_bestW hV hA
    have assoc : ∀ {β : Type} (k : Unit → PP β), bd (sI 249 28 (-1 : Int32)) (fun (_ : Unit) => bd (FX12_triesNow 249) (fun (_ : Unit) => bd (FX12_wishes 10 249 (0 : Int32) (0 : Int32)) k)) = bd (bd (sI 249 28 (-1 : Int32)) (fun (_ : Unit) => bd (FX12_triesNow 249) (fun (_ : Unit) => FX12_wishes 10 249 (0 : Int32) (0 : Int32)))) k := fun k => by
      rw [bd_as]
      congr 1
      funext u
      rw [bd_as]
    rw [assoc]
    refine wp_bd mb ?_
    rintro _ υ ⟨q1, ⟨q2, q3⟩ | ⟨b, q2, q3, q4⟩⟩
    · refine ws_gv q2 ?_
      rw [if_neg (by decide)]
      exact wp_eq (show pu _ υ = some (_, υ) from rfl) (wp_pu ⟨(wiR_no q3).symm, q1⟩)
    · have hsz : sz (wiP A) b (A.1.1 2) ≤ A.1.1 2 := zsm_1 (fun k => by unfold hu; split <;> omega)
      obtain ⟨w1, w2⟩ := wiR_b q2 v6
      refine ws_gv q3 ?_
      rw [if_pos (nI_pos' (by omega))]
      by_cases z : x = -1
      · rw [if_pos z]
        refine wp_bd (ws_gv (P := fun r τ => r = nI (sz (wiP A) b (A.1.1 2)) ∧ τ = υ) q3 (wp_pu ⟨rfl, rfl⟩)) ?_
        rintro r τ ⟨rfl, rfl⟩
        exact wp_pu ⟨by rw [z, w1], q1⟩
      · rw [if_neg z]
        obtain ⟨c, hc, rfl⟩ := inN_ex (by omega) (hx.resolve_left z)
        refine wp_bd (ws_a (P := fun r τ => r = eI (b c) ∧ τ = υ) (by omega) (by decide) (q4 c hc) (wp_pu ⟨rfl, rfl⟩)) ?_
        rintro r τ ⟨rfl, rfl⟩
        exact wp_pu ⟨(w2 c hc (by omega)).symm, q1⟩
  by_cases z : x = -1
  · rw [if_pos z]
    exact main (Or.inl z)
  · rw [if_neg z]
    refine wp_eq (m_isCloth hA.1.1 x) ?_
    by_cases q : inN x (A.1.1 2) = true
    · rw [if_neg (bt q)]
      exact main (Or.inr q)
    · rw [if_pos (bf q)]
      refine wp_pu ⟨?_, eqr_rf⟩
      unfold wiR
      rw [if_neg (fun e => e.elim z q)]
theorem ok_16 {σ : MM} (h : Inv σ) (q : Nat → Int32) : okC (fun chk => TL_16 chk q) σ := by
  obtain ⟨A, hV, hC, hM⟩ := h
  exact okC_of (eq := fun x y => x = y) rfl hV hV hM (cq_w hC (c_wish hV hC (ex_best hV hM) (q 1)) RvC_sc) (fun τ hM => m_wish hV hM (q 1))
