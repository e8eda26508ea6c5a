theorem bd_as3 {α β γ δ : Type} {A : PP α} {B : α → PP β} {C : β → PP γ} {k : γ → PP δ} {σ : MM} {P : δ → MM → Prop} (h : wp (bd (bd A (fun x => bd (B x) C)) k) σ P) : wp (bd A (fun x => bd (B x) (fun v => bd (C v) k))) σ P := by
  simp only [bd_as] at h
  exact h
def midS (T : TW) (S : SK) (dr : Bool) (k : Nat) : SK := fun r c => if r = 0 then (if c < k then paS T S dr 0 c else S 0 c) else S r c
theorem mid_0 {T : TW} {S : SK} {dr : Bool} {k : Nat} : midS T S dr k 0 k = S 0 k := by simp [midS]
theorem VSk_mid {T : TW} {S : SK} {dr : Bool} {k : Nat} (hv : VSk T S) : VSk T (midS T S dr k) := by
  intro c hc
  refine ⟨?_, (hv c hc).2.1, (hv c hc).2.2⟩
  show ∃ w, w ≤ 20 ∧ (if c < k then paS T S dr 0 c else S 0 c) = nI w
  by_cases q : c < k
  · rw [if_pos q]; exact (VSk_pa (dr := dr) hv c hc).1
  · rw [if_neg q]; exact (hv c hc).1
theorem up4_eq {f : Nat → Nat → Int32} {r : Nat} {x y z w : Int32} : (up2 (up2 (up2 (up2 f r 0 x) r 1 y) r 2 z) r 3 w) r 0 = x ∧ (up2 (up2 (up2 (up2 f r 0 x) r 1 y) r 2 z) r 3 w) r 1 = y ∧ (up2 (up2 (up2 (up2 f r 0 x) r 1 y) r 2 z) r 3 w) r 2 = z ∧ (up2 (up2 (up2 (up2 f r 0 x) r 1 y) r 2 z) r 3 w) r 3 = w ∧ ∀ b j, b ≠ r → (up2 (up2 (up2 (up2 f r 0 x) r 1 y) r 2 z) r 3 w) b j = f b j := by
  refine ⟨by simp [up2], by simp [up2], by simp [up2], by simp [up2], fun b j h => by simp [up2, h]⟩
theorem ms_pass {T : TW} {S : SK} {σ : MM} {b : Nat} (hV : VTn T) (hT : MTn T σ) (hb : okB b) (hS : MSk T b S σ) (hv : VSk T S) (dr : Bool) : wp (FX12_passes 249 (nI b) (b2i dr)) σ (fun r τ => r = ddS T S dr ∧ MSk T b (paS T S dr) τ ∧ eqr (fun r j => r = 263 ∨ r = 264 ∨ (r = 265 ∧ b ≤ j ∧ j < b + 19)) σ τ) := by
  have h6 := hV.1.2.2.1
  have hb' : b + 42 ≤ 966 := hb
  unfold FX12_passes
  obtain ⟨P, hP⟩ : ∃ P : Int32 → MM → Prop, P = (fun r τ => r = ddS T S dr ∧ MSk T b (paS T S dr) τ ∧ eqr (fun r j => r = 263 ∨ r = 264 ∨ (r = 265 ∧ b ≤ j ∧ j < b + 19)) σ τ) := ⟨_, rfl⟩
  rw [← hP]
  show ∃ r τ, bd _ _ σ = some (r, τ) ∧ P r τ
  rw [ms_sun hV hT hb hS hv]
  show wp _ σ P
  rw [r249_10, r249_21, r249_23]
  refine ws_it (fun k s τ => s = (btF (ddP T S dr) k, nI k) ∧ eqr (fun r j => r = 263 ∨ r = 264 ∨ (r = 265 ∧ b + 1 ≤ j ∧ j < b + 7)) σ τ ∧ MSk T b (midS T S dr k) τ) (T.1 2) (by omega) ⟨rfl, eqr_rf, ⟨hS.1, fun c hc => ?_⟩⟩ ?_
  · show _ = (if c < 0 then paS T S dr 0 c else S 0 c) ∧ _ = S 1 c ∧ _ = S 2 c
    rw [if_neg (by omega)]
    exact hS.2 c hc
  rintro k s τ hk ⟨rfl, hq, hM⟩
  have hT' : MTn T τ := MTn_r hq (fun b j h1 h2 => by omega) hT
  have hvk := VSk_mid (dr := dr) (k := k) hv
  refine wp_eq (ms_cloths hT') ?_
  by_cases hkn : k < T.1 2
  · rw [if_neg (nle_n hkn (by omega))]
    have hstep : ∀ (υ : MM) (r : Int32), r = btF (ddP T S dr) (k + 1) → eqr (fun r j => r = 263 ∨ r = 264 ∨ (r = 265 ∧ b + 1 ≤ j ∧ j < b + 7)) σ υ → MSk T b (midS T S dr (k + 1)) υ → wp (lt (nI k + (1 : Int32)) (fun y32 => pu (Sum.inl (r, y32))) : PP ((Int32 × Int32) ⊕ Int32)) υ (fun r υ => (∃ a', r = .inl a' ∧ k < T.1 2 ∧ a' = (btF (ddP T S dr) (k + 1), nI (k + 1)) ∧ eqr (fun r j => r = 263 ∨ r = 264 ∨ (r = 265 ∧ b + 1 ≤ j ∧ j < b + 7)) σ υ ∧ MSk T b (midS T S dr (k + 1)) υ) ∨ (∃ z, r = .inr z ∧ wp (bd (aI 265 966 (nI b + (0 : Int32))) (fun x34 => bd (uI 265 966 (nI b + (0 : Int32)) (x34 + (1 : Int32))) (fun (_ : Unit) => pu z))) υ P)) := by
      intro υ r hr hq' hm'
      rw [lt_eq]
      refine wp_pu (Or.inl ⟨_, rfl, hkn, ?_, hq', hm'⟩)
      rw [hr, nI_1]
    refine wp_eq (ms_doesHang hV hb hM hvk hkn) ?_
    have e1 : midS T S dr k 1 k = S 1 k := rfl
    have e2 : midS T S dr k 2 k = S 2 k := rfl
    have same : paS T S dr 0 k = S 0 k → MSk T b (midS T S dr (k + 1)) τ := by
      intro hp
      refine ⟨hM.1, fun c hc => ?_⟩
      have := hM.2 c hc
      refine ⟨this.1.trans ?_, this.2.1, this.2.2⟩
      show (if c < k then paS T S dr 0 c else S 0 c) = (if c < k + 1 then paS T S dr 0 c else S 0 c)
      by_cases q : c = k
      · subst q
        rw [if_neg (by omega), if_pos (by omega), hp]
      · by_cases q2 : c < k
        · rw [if_pos q2, if_pos (by omega)]
        · rw [if_neg q2, if_neg (by omega)]
    rw [e1]
    by_cases q1 : S 1 k = -1
    · rw [if_pos (by simp [q1, b2i])]
      refine wp_eq (show pu _ τ = some (_, τ) from rfl) (hstep τ _ ?_ hq (same ?_))
      · show btF _ k = btF _ k ||| (if ddP T S dr k = true then _ else 0)
        simp [ddP, q1]
      · show (if dr = true then nwS T S k else S 0 k) = S 0 k
        simp [nwS, q1]
    · rw [if_neg (by simp [q1, b2i])]
      cases dr with
      | false =>
        rw [if_pos (show b2i false = 0 from rfl)]
        exact wp_eq (show pu _ τ = some (_, τ) from rfl) (hstep τ _ (by
          show btF _ k = btF _ k ||| (if ddP T S false k = true then _ else 0)
          simp [ddP]) hq (same rfl))
      | true =>
        rw [if_neg (show ¬ b2i true = 0 by decide)]
        have i1 : nI b + (1 : Int32) + nI k = nI (b + 1 + k) := ixS b 1 k
        have i13 : nI b + (13 : Int32) + nI k = nI (b + 13 + k) := ixS b 13 k
        have i0 : nI b + (0 : Int32) = nI b := by simp
        obtain ⟨m1, m2, m3⟩ := hM.2 k hkn
        rw [mid_0] at m1
        obtain ⟨n1, n2⟩ := nw_m hv hkn q1
        refine wp_bd (Q := fun r ω => r = btF (ddP T S true) (k + 1) ∧ eqr (fun r j => r = 263 ∨ r = 264 ∨ (r = 265 ∧ j = b + 1 + k)) τ ω ∧ ω.1 265 (b + 1 + k) = nwS T S k) ?_ ?_
        · rw [i1, i13, i0]
          refine ws_a (by omega) (by decide) m1 ?_
          refine ws_u (i := 0) (by decide) (by decide) ?_
          refine ws_a (by omega) (by decide) (x := S 2 k) (by simp [up2]; exact m3) ?_
          refine ws_u (i := 1) (by decide) (by decide) ?_
          refine ws_u (i := 2) (by decide) (by decide) ?_
          refine ws_a (by omega) (by decide) (x := S 3 0) (by simp [up2]; exact hM.1) ?_
          refine ws_u (i := 3) (by decide) (by decide) ?_
          obtain ⟨f0, f1, f2, f3, fo⟩ := up4_eq (f := τ.1) (r := 263) (x := S 0 k) (y := 3 - S 2 k) (z := suS T S) (w := S 3 0)
          generalize hυ : ((up2 (up2 (up2 (up2 τ.1 263 0 (S 0 k)) 263 1 (3 - S 2 k)) 263 2 (suS T S)) 263 3 (S 3 0), τ.2) : MM) = υ
          have eυ : υ.1 = up2 (up2 (up2 (up2 τ.1 263 0 (S 0 k)) 263 1 (3 - S 2 k)) 263 2 (suS T S)) 263 3 (S 3 0) := by rw [← hυ]
          rw [← eυ] at f0 f1 f2 f3
          have hqυ : eqr (fun r _ => r = 263) τ υ := ⟨fun b j h => by rw [eυ]; exact fo b j h, by rw [← hυ]⟩
          have hTυ : MTn T υ := MTn_r hqυ (fun b j h1 h2 => by omega) hT'
          refine bd_as3 ?_
          refine wp_bd (ms_law hV hTυ f0 f1 f2 f3) ?_
          rintro v ω ⟨rfl, hω⟩
          have o1 : ω.1 265 (b + 1 + k) = S 0 k := by rw [hω.1 _ _ (by omega), hqυ.1 _ _ (by omega)]; exact m1
          have hqω : eqr (fun r j => r = 263 ∨ r = 264) τ ω := eqr_tr (eqr_mono hqυ (fun b j q => by omega)) (eqr_mono hω (fun b j q => by omega))
          have wet1 := m_isWet (σ := ω) hb (show k < 6 by omega)
          rw [o1] at wet1
          refine wp_eq wet1 ?_
          rw [lt_eq]
          refine ws_a (by omega) (by decide) o1 ?_
          refine ws_a (by omega) (by decide) o1 ?_
          refine wp_eq (x := if S 0 k ≤ drS T (S 0 k) (3 - S 2 k) (suS T S) (S 3 0) then S 0 k else drS T (S 0 k) (3 - S 2 k) (suS T S) (S 3 0)) (τ := ω) ?_ ?_
          · by_cases q5 : S 0 k ≤ drS T (S 0 k) (3 - S 2 k) (suS T S) (S 3 0)
            · rw [if_pos q5, if_pos q5]
              refine (ev_bd (ev_aI (show b + 1 + k < 966 by omega) (by decide))).trans ?_
              rw [o1]
              rfl
            · rw [if_neg q5, if_neg q5]
              rfl
          rw [n1]
          refine ws_u (by omega) (by decide) ?_
          have hfin : eqr (fun r j => r = 263 ∨ r = 264 ∨ (r = 265 ∧ j = b + 1 + k)) τ (up2 ω.1 265 (b + 1 + k) (nwS T S k), ω.2) := eqr_tr (eqr_mono hqω (fun b j q => by omega)) (eqr_up (by omega))
          have wet2 := m_isWet (σ := (up2 ω.1 265 (b + 1 + k) (nwS T S k), ω.2)) hb (show k < 6 by omega)
          rw [show ((up2 ω.1 265 (b + 1 + k) (nwS T S k), ω.2) : MM).1 265 (b + 1 + k) = nwS T S k from up2_at] at wet2
          by_cases q2 : S 0 k ≤ 0
          · rw [if_pos (by simp [q2, b2i])]
            refine wp_eq (show pu _ _ = some (_, _) from rfl) ?_
            rw [lt_eq]
            refine wp_pu ⟨?_, hfin, up2_at⟩
            show _ = btF _ k ||| (if ddP T S true k = true then _ else 0)
            simp [ddP, q2]
          · rw [if_neg (by simp [q2, b2i])]
            refine bd_asw (wp_eq wet2 ?_)
            by_cases q3 : nwS T S k = 0
            · have q4 : nwS T S k ≤ 0 := (n2 q2).mpr q3
              rw [if_pos (by simp [q4, b2i])]
              refine wp_eq (show pu _ _ = some (_, _) from rfl) ?_
              rw [lt_eq]
              refine wp_pu ⟨?_, hfin, up2_at⟩
              show _ = btF _ k ||| (if ddP T S true k = true then _ else 0)
              simp [ddP, q1, q2, q3]
            · have q4 : ¬ nwS T S k ≤ 0 := fun z => q3 ((n2 q2).mp z)
              rw [if_neg (by simp [q4, b2i])]
              refine wp_eq (show pu _ _ = some (_, _) from rfl) ?_
              rw [lt_eq]
              refine wp_pu ⟨?_, hfin, up2_at⟩
              show _ = btF _ k ||| (if ddP T S true k = true then _ else 0)
              simp [ddP, q1, q2, q3]
        · rintro r ω ⟨hr, hω, hn⟩
          refine hstep ω r hr (eqr_tr hq (eqr_mono hω (fun b j q => by omega))) ⟨(hω.1 _ _ (by omega)).trans hM.1, fun c hc => ?_⟩
          have hMc := hM.2 c hc
          refine ⟨?_, (hω.1 _ _ (by omega)).trans hMc.2.1, (hω.1 _ _ (by omega)).trans hMc.2.2⟩
          show _ = (if c < k + 1 then paS T S true 0 c else S 0 c)
          by_cases q : c = k
          · subst q
            rw [hn, if_pos (by omega)]
            rfl
          · rw [hω.1 _ _ (by omega), hMc.1]
            show (if c < k then paS T S true 0 c else S 0 c) = _
            by_cases q2 : c < k
            · rw [if_pos q2, if_pos (by omega)]
            · rw [if_neg q2, if_neg (by omega)]
  · have : k = T.1 2 := by omega
    subst this
    rw [if_pos (le_nn (by omega))]
    refine wp_pu (Or.inr ⟨_, rfl, ?_⟩)
    have i0 : nI b + (0 : Int32) = nI b := by simp
    rw [i0]
    refine ws_a (by omega) (by decide) hM.1 ?_
    refine ws_u (by omega) (by decide) ?_
    refine wp_pu ?_
    rw [hP]
    refine ⟨rfl, ⟨?_, fun c hc => ?_⟩, eqr_tr (eqr_mono hq (fun b j q => by omega)) (eqr_up (by omega))⟩
    · show up2 τ.1 265 b _ 265 b = _
      rw [up2_at]
      rfl
    · have hMc := hM.2 c hc
      show up2 τ.1 265 b _ 265 _ = _ ∧ up2 τ.1 265 b _ 265 _ = _ ∧ up2 τ.1 265 b _ 265 _ = _
      rw [up2_ne (by omega), up2_ne (by omega), up2_ne (by omega)]
      refine ⟨hMc.1.trans ?_, hMc.2.1, hMc.2.2⟩
      show (if c < T.1 2 then paS T S dr 0 c else S 0 c) = _
      rw [if_pos hc]
