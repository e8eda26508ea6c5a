/-! ===== wishes: the class's search ===== -/
theorem c_search {T : TW} {S : SK} {W : Nat → Int32} {σ : MM} (hV : VTn T) (hT : CTn T σ) (hv : VSk T S) (vW : VWa T W) (hW : CWa 131 W σ) (hB : ∀ j, j < 4 → ∀ l, l < 5 → (((σ.1 133 j >>> (nI l &&& 31)) &&& 1 = 1) ↔ usf (PW T S W) j l)) : ∀ (fuel c : Nat) (g : Nat → Nat) (m : Nat) (τ : MM), T.1 2 - c < fuel → c ≤ T.1 2 → rOk T S g c → m ≤ 6 → eqr RsC σ τ → WC T S g c τ → wp (FX9_search fuel 130 (nI c) (nI m)) τ (fun r υ => eqr RsC σ υ ∧ WC T S g c υ ∧ (r = false → ∀ h, ¬ EE (PW T S W) g c m h) ∧ (r = true → ∃ h, EE (PW T S W) g c m h ∧ (∀ h', EE (PW T S W) g c m h' → lxe (T.1 2) h h') ∧ ∀ k, k < 6 → k < T.1 2 → υ.1 132 k = eI (h k))) := by
  have v5 := hV.1.1
  have v4 := hV.1.2.1
  have v6 := hV.1.2.2.1
  have hO : Okq (PW T S W) := Okq_PW hV
  have hq5 : ∀ p, p < qP (PW T S W) → qW (PW T S W) p ≤ 5 := fun p hp => by
    show wnN (W p) ≤ 5
    rcases (vW p (by have : p < T.1 1 := hp; omega)).1 with q | q | ⟨w, hw, q⟩
    · rw [q]; decide
    · rw [q]; decide
    · rw [q, wnN_n hw]; omega
  intro fuel
  induction fuel with
  | zero => intro c g m τ h; omega
  | succ fuel ih =>
    intro c g m τ hf hc hr hm hq hC
    show wp (GX9_search (FX9_search fuel) 130 (nI c) (nI m)) τ _
    unfold GX9_search
    rw [r130_2, r130_1, r130_3, sk0 o43, r3_6]
    refine wp_bd (c_can (S := S) (W := W) (g := g) hV vW (sc_T hq hT) (sc_W hq hW) hC hr hc hm) ?_
    rintro r τ1 ⟨q1, hr1⟩
    have hq1 : eqr RsC σ τ1 := eqr_tr hq (eqr_mono q1 (fun b j z => by unfold RsC; omega))
    have hC1 := WC_47 hC q1
    cases r with
    | false =>
      rw [if_pos (by decide)]
      refine ws_z0 ⟨hq1, hC1, fun _ h hE => ?_, fun e => absurd e (by decide)⟩
      exact absurd (hr1.mpr (fun p hp => EE_can hO hc hE hp)) (by decide)
    | true =>
      rw [if_neg (by decide)]
      have hcs := hr1.mp rfl
      by_cases hm0 : m = 0
      · subst hm0
        rw [if_pos nI_0]
        refine wp_bd (c_forget (τ := τ1) (c := c) (by omega)) ?_
        rintro _ τ2 ⟨f1, f2, f3⟩
        obtain ⟨⟨U, u1, u2, u3⟩, u4⟩ := hC1
        refine ws_z1 ⟨eqr_tr hq1 (eqr_mono f1 (fun b j z => by unfold RsC; omega)), ⟨⟨U, CSk_r f1 (fun j => by omega) (by omega) u1, u2, u3⟩, fun k hk => (f2 k hk).trans (u4 k hk)⟩, fun e => absurd e (by decide), fun _ => ⟨g5 g c, can_0 hO hc hq5 hcs, fun h' hE => Or.inl (EE_0 hc hE), fun k hk _ => ?_⟩⟩
        by_cases z : k < c
        · rw [f2 k z, u4 k z]; simp [g5, z]
        · rw [f3 k (by omega) hk]; simp [g5, z, eI]
      · obtain ⟨m1, rfl⟩ : ∃ m1, m = m1 + 1 := ⟨m - 1, by omega⟩
        rw [if_neg (nI_ne0 (by omega) (by omega))]
        refine ws_gv (sc_T hq1 hT).1.2.2.1 ?_
        by_cases hcn : c < T.1 2
        · rw [if_pos (nI_lt hcn (by omega))]
          obtain ⟨kd4, ekd⟩ := kdN_ok hV hcn
          refine ws_a (by omega) (by decide) (((sc_T hq1 hT).2.2.2.1 c hcn).1.trans ekd) ?_
          refine ws_a (by omega) (by decide) (hq1.1 _ _ (fun z => by unfold RsC at z; omega)) ?_
          refine wp_bd (c_firstLine (W := W) hV hv (sc_T hq1 hT) hC1 hr hcn) ?_
          rintro x5 τ2 ⟨rfl, rfl⟩
          have lxs : ∀ (n : Nat) (h1 h2 : Nat → Nat), EE (PW T S W) g c (m1 + 1) h1 → h1 c = n → EE (PW T S W) g c (m1 + 1) h2 → n < h2 c → lxe (T.1 2) h1 h2 := fun n h1 h2 a1 a2 b1 b2 => Or.inr ⟨c, hcn, fun i hi => by rw [a1.1 i hi, b1.1 i hi], by omega⟩
          have hfl : fL (PW T S W) g c ≤ 5 := by
            have key : ∀ n, n ≤ c → fd (PW T S W) g c n ≤ 5 := by
              intro n
              induction n with
              | zero => intro _; exact Nat.zero_le _
              | succ n ih2 =>
                intro hn
                have := ih2 (by omega)
                unfold fd
                split
                · split
                  · have : g n < T.1 0 := by assumption
                    omega
                  · split <;> omega
                · omega
            unfold fL
            split
            · exact key c (Nat.le_refl _)
            · exact Nat.le_refl _
          have usb : ∀ l, l < 5 → (((σ.1 133 (kdN T c) >>> (nI l &&& 31)) &&& 1 = 1) ↔ usf (PW T S W) (kdN T c) l) := fun l hl => hB _ kd4 l hl
          have rest : ∀ υ : MM, eqr RsC σ υ → WC T S g c υ → (∀ h, EE (PW T S W) g c (m1 + 1) h → h c = 5) → wp (bd (uI 132 6 (nI c) (-1 : Int32)) (fun (_ : Unit) => bd ((FX9_search fuel) 130 (nI c + (1 : Int32)) (nI (m1 + 1))) (fun x17 => zb ((b2i x17))))) υ (fun r υ => eqr RsC σ υ ∧ WC T S g c υ ∧ (r = false → ∀ h, ¬ EE (PW T S W) g c (m1 + 1) h) ∧ (r = true → ∃ h, EE (PW T S W) g c (m1 + 1) h ∧ (∀ h', EE (PW T S W) g c (m1 + 1) h' → lxe (T.1 2) h h') ∧ ∀ k, k < 6 → k < T.1 2 → υ.1 132 k = eI (h k))) := by
            intro υ h1 h2 h3
            obtain ⟨⟨U1, a1, a2, a3⟩, x2⟩ := h2
            refine ws_u (by omega) (by decide) ?_
            rw [nI_1]
            have hr5 : rOk T S (ud g c 5) (c + 1) := fun k hk => by
              by_cases z : k = c
              · rw [z]; exact Or.inr ud_at
              · rw [ud_ne z]; exact hr k (by omega)
            have hCn : WC T S (ud g c 5) (c + 1) (up2 υ.1 132 c (-1), υ.2) := by
              refine ⟨⟨U1, CSk_r (R := fun b _ => b = 132) (eqr_up rfl) (fun j => by omega) (by omega) a1, a2, by rw [skg_no]; exact a3⟩, fun k hk => ?_⟩
              show up2 υ.1 132 c (-1) 132 k = _
              by_cases z : k = c
              · rw [z, up2_at, ud_at]; rfl
              · rw [up2_ne (by omega), ud_ne z]; exact x2 k (by omega)
            have e5 : gE (PW T S W) (ud g c 5) c := Or.inl ud_at
            have hEs : ∀ h, EE (PW T S W) (ud g c 5) (c + 1) (m1 + 1) h ↔ EE (PW T S W) g c (m1 + 1) h ∧ h c = 5 := fun h => EE_s hcn e5 (by rw [if_neg (by show ¬ 5 < T.1 0; omega)])
            refine wp_bd (ih (c + 1) (ud g c 5) (m1 + 1) _ (by omega) (by omega) hr5 hm (eqr_tr h1 (eqr_up (by unfold RsC; omega))) hCn) ?_
            rintro r ω ⟨k1, ⟨⟨U2, c1, c2, c3⟩, y2⟩, k3, k4⟩
            rw [skg_no] at c3
            refine ws_z ⟨k1, ⟨⟨U2, c1, c2, c3⟩, fun k hk => by rw [y2 k (by omega), ud_ne (by omega)]⟩, fun e h hE => k3 e h ((hEs h).mpr ⟨hE, h3 h hE⟩), fun e => ?_⟩
            obtain ⟨h, p1, p2, p3⟩ := k4 e
            exact ⟨h, ((hEs h).mp p1).1, fun h' hE => p2 h' ((hEs h').mpr ⟨hE, h3 h' hE⟩), p3⟩
          refine ws_it (fun k s υ => s = nI (fL (PW T S W) g c + k) ∧ eqr RsC σ υ ∧ WC T S g c υ ∧ ∀ h, EE (PW T S W) g c (m1 + 1) h → ¬ h c < fL (PW T S W) g c + k) 6 (by decide) ⟨rfl, hq1, hC1, fun h hE hl => ?_⟩ ?_
          · rcases EE_c hcn hE with z | z
            · rw [ud_at] at z; omega
            · have := z.2.2.1
              rw [ud_at, fL_cong (h := g) (fun i hi => ud_ne (by omega))] at this
              omega
          rintro k s υ hk ⟨rfl, h1, h2, h3⟩
          refine ws_gv (sc_T h1 hT).1.1 ?_
          generalize hln : fL (PW T S W) g c + k = l at h3 ⊢
          by_cases hkn : l < T.1 0
          · rw [if_neg (nle_n hkn (by omega))]
            have nxt : ∀ ω : MM, eqr RsC σ ω → WC T S g c ω → (∀ h, EE (PW T S W) g c (m1 + 1) h → ¬ h c = l) → wp (lt (nI l + (1 : Int32)) (fun y8 => pu (Sum.inl y8)) : PP ((Int32) ⊕ ((Unit) ⊕ (Unit)))) ω (fun r υ => (∃ a', r = .inl a' ∧ k < 6 ∧ (a' = nI (fL (PW T S W) g c + (k + 1)) ∧ eqr RsC σ υ ∧ WC T S g c υ ∧ ∀ h, EE (PW T S W) g c (m1 + 1) h → ¬ h c < fL (PW T S W) g c + (k + 1))) ∨ (∃ b, r = .inr b ∧ wp ((Sum.elim (fun (v16 : Unit) => bd (uI 132 6 (nI c) (-1 : Int32)) (fun (_ : Unit) => bd ((FX9_search fuel) 130 (nI c + (1 : Int32)) (nI (m1 + 1))) (fun x17 => zb ((b2i x17))))) (fun (v18 : Unit) => zb (1 : Int32))) b) υ (fun r υ => eqr RsC σ υ ∧ WC T S g c υ ∧ (r = false → ∀ h, ¬ EE (PW T S W) g c (m1 + 1) h) ∧ (r = true → ∃ h, EE (PW T S W) g c (m1 + 1) h ∧ (∀ h', EE (PW T S W) g c (m1 + 1) h' → lxe (T.1 2) h h') ∧ ∀ k, k < 6 → k < T.1 2 → υ.1 132 k = eI (h k))))) := fun ω a1 a2 a3 => by
              rw [lt_eq]
              refine wp_pu (Or.inl ⟨_, rfl, by omega, by rw [nI_1, ← hln, Nat.add_assoc], a1, a2, fun h hE hl => ?_⟩)
              have b1 := h3 h hE
              have b2 := a3 h hE
              omega
            have hgl : ∀ h, EE (PW T S W) g c (m1 + 1) h → h c = l → gE (PW T S W) (ud g c l) c := fun h hE e => by
              have := EE_c hcn hE
              rwa [e] at this
            by_cases hbit : ((σ.1 133 (kdN T c) >>> (nI l &&& 31)) &&& 1 = 1)
            · rw [if_pos hbit]
              obtain ⟨⟨U1, a1, a2, a3⟩, x2⟩ := id h2
              refine wp_eq (ks_freeOn (sc_T h1 hT) o43 a1 hkn) ?_
              have hfree := row_free (W := W) hV hv a3 hr hc hkn
              by_cases hfr : frS T U1 l ≤ 0
              · rw [if_pos hfr]
                refine nxt υ h1 h2 (fun h hE e => ?_)
                rcases hgl h hE e with z | z
                · rw [ud_at] at z; omega
                · have := z.2.2.2
                  rw [ud_at, ct_cong (h := g) (fun i hi => ud_ne (by omega))] at this
                  exact hfree.mpr this hfr
              · rw [if_neg hfr]
                have hy : S 1 c = -1 ∧ fL (PW T S W) g c ≤ l := by
                  refine ⟨?_, by omega⟩
                  have hl5 : fL (PW T S W) g c < 5 := by omega
                  unfold fL at hl5
                  by_cases y : qy (PW T S W) c = true ∧ qw (PW T S W) c = true
                  · have : decide (S 1 c = -1) = true := y.1
                    simpa using this
                  · rw [if_neg y] at hl5; omega
                have hg1 : gE (PW T S W) (ud g c l) c := by
                  refine Or.inr ?_
                  rw [ud_at, fL_cong (h := g) (fun i hi => ud_ne (by omega)), ct_cong (h := g) (fun i hi => ud_ne (by omega))]
                  exact ⟨hkn, (usb l (by omega)).mp hbit, hy.2, hfree.mp hfr⟩
                have hEs : ∀ h, EE (PW T S W) (ud g c l) (c + 1) m1 h ↔ EE (PW T S W) g c (m1 + 1) h ∧ h c = l := fun h => EE_s hcn hg1 (by rw [if_pos (show l < qL (PW T S W) from hkn)])
                refine ws_u (by omega) (by decide) ?_
                have a1' : CSk T 43 U1 (up2 υ.1 132 c (nI l), υ.2) := CSk_r (R := fun b _ => b = 132) (eqr_up rfl) (fun j => by omega) (by omega) a1
                obtain ⟨τ3, e3, d1, d2⟩ := ks_putUp (l := nI l) (k := 1) v6 o43 a1' hcn
                refine wp_eq e3 ?_
                rw [nI_1 c, nI_pred]
                have hr2 : rOk T S (ud g c l) (c + 1) := fun i hi => by
                  by_cases z : i = c
                  · rw [z, ud_at]; exact Or.inl ⟨hkn, hy.1⟩
                  · rw [ud_ne z]; exact hr i (by omega)
                have hCn : WC T S (ud g c l) (c + 1) τ3 := by
                  refine ⟨⟨puS U1 c (nI l) 1, d1, VSk_p1 a2 hkn, skA_up a3 (by omega)⟩, fun i hi => ?_⟩
                  rw [d2.1 _ _ (by omega)]
                  show up2 υ.1 132 c (nI l) 132 i = _
                  by_cases z : i = c
                  · rw [z, up2_at, ud_at]; unfold eI; rw [if_pos (by omega)]
                  · rw [up2_ne (by omega), ud_ne z]; exact x2 i (by omega)
                refine wp_bd (ih (c + 1) (ud g c l) m1 τ3 (by omega) (by omega) hr2 (by omega) (eqr_tr (eqr_tr h1 (eqr_up (by unfold RsC; omega))) (eqr_mono d2 (fun b j z => by unfold RsC; omega))) hCn) ?_
                rintro r ω ⟨k1, ⟨⟨U2, c1, c2, c3⟩, y2⟩, k3, k4⟩
                rw [lt_eq]
                obtain ⟨ω1, e4, d3, d4⟩ := ks_putDown v6 o43 c1 hcn
                refine wp_eq e4 ?_
                have n1 : eqr RsC σ ω1 := eqr_tr k1 (eqr_mono d4 (fun b j z => by unfold RsC; omega))
                have n2 : WC T S g c ω1 := ⟨⟨dnS U2 c, d3, VSk_dn c2, skA_dn c3 hy.1⟩, fun i hi => by rw [d4.1 _ _ (by omega), y2 i (by omega), ud_ne (by omega)]⟩
                cases r with
                | false =>
                  rw [if_pos (by decide)]
                  have nx := nxt ω1 n1 n2 (fun h hE e => k3 rfl h ((hEs h).mpr ⟨hE, e⟩))
                  rw [nI_1 c] at nx
                  exact nx
                | true =>
                  rw [if_neg (by decide)]
                  obtain ⟨h, p1, p2, p3⟩ := k4 rfl
                  obtain ⟨p4, p5⟩ := (hEs h).mp p1
                  refine wp_pu (Or.inr ⟨_, rfl, ws_z1 ⟨n1, n2, fun e => absurd e (by decide), fun _ => ⟨h, p4, fun h' hE => ?_, fun i hi1 hi2 => by rw [d4.1 _ _ (by omega)]; exact p3 i hi1 hi2⟩⟩⟩)
                  have b1 := h3 h' hE
                  by_cases z : h' c = l
                  · exact p2 h' ((hEs h').mpr ⟨hE, z⟩)
                  · exact lxs l h h' p4 p5 hE (by omega)
            · rw [if_neg hbit]
              refine nxt υ h1 h2 (fun h hE e => ?_)
              rcases hgl h hE e with z | z
              · rw [ud_at] at z; omega
              · have := z.2.1
                rw [ud_at] at this
                exact hbit ((usb l (by omega)).mpr this)
          · rw [if_pos (nI_le (by omega) (by omega))]
            refine wp_pu (Or.inr ⟨_, rfl, rest υ h1 h2 (fun h hE => ?_)⟩)
            have b1 := h3 h hE
            rcases hE.2.1 c (by omega) hcn with z | z
            · exact z
            · have : h c < T.1 0 := z.1
              omega
        · rw [if_neg (nI_nlt (by omega) (by omega))]
          refine ws_z0 ⟨hq1, hC1, fun _ h hE => ?_, fun e => absurd e (by decide)⟩
          have e : c = qC (PW T S W) := by show c = T.1 2; omega
          have := hE.2.2.1
          rw [← e] at this
          omega
