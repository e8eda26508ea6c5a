/-! ===== an hour ===== -/
theorem hg_cong {st st2 : Nat → Int32} {m : Nat} (h : ∀ k, k < m → st k = st2 k) : ∀ k, k ≤ m → hg st k = hg st2 k
  | 0, _ => rfl
  | k + 1, hk => by
    simp only [hg]
    rw [hg_cong h k (by omega), h k (by omega)]
theorem sv_cong {opn : Int32 → Int32} {st st2 r0 : Nat → Int32} {m : Nat} (h : ∀ k, k < m → st k = st2 k) : ∀ k, k ≤ m → sv opn st r0 k = sv opn st2 r0 k
  | 0, _ => rfl
  | k + 1, hk => by
    simp only [sv]
    rw [sv_cong h k (by omega), hg_cong h k (by omega), h k (by omega)]
theorem WF_cong {st st2 : Nat → Int32} {m : Nat} (h : ∀ k, k < m → st k = st2 k) (hw : WF st2 m) : WF st m := by
  refine ⟨fun k hk => ?_, ?_⟩
  · have := hw.1 k hk
    unfold okS at this ⊢
    rw [hg_cong h k (by omega), h k hk]
    exact this
  · rw [hg_cong h m (Nat.le_refl m)]
    exact hw.2
def suS (T : TW) (S : SK) : Int32 := hmF (fun c => decide (¬ S 1 c = -1) && (decide (¬ S 0 c ≤ 0) && decide (T.2 3 c = 1))) (T.1 2)
def drS (T : TW) (d l u c : Int32) : Int32 := clp (sv (fun s => opnd s d l u c) (T.2 5) (fun _ => 0) (T.1 3) 0)
def mx0 (x : Int32) : Int32 := if (0 : Int32) < x then x else 0
def nwS (T : TW) (S : SK) (c : Nat) : Int32 := if S 1 c = -1 then S 0 c else if S 0 c ≤ 0 then S 0 c else mx0 (S 0 c - drS T (S 0 c) (3 - S 2 c) (suS T S) (S 3 0))
def paS (T : TW) (S : SK) (dr : Bool) : SK := fun r c => if r = 0 then (if dr = true then nwS T S c else S 0 c) else if r = 3 then (if c = 0 then S 3 0 + 1 else S 3 c) else S r c
def ddP (T : TW) (S : SK) (dr : Bool) (c : Nat) : Bool := dr && (decide (¬ S 1 c = -1) && (decide (¬ S 0 c ≤ 0) && decide (nwS T S c = 0)))
def ddS (T : TW) (S : SK) (dr : Bool) : Int32 := btF (ddP T S dr) (T.1 2)
theorem btF_0 {p : Nat → Bool} : ∀ {n : Nat}, (∀ k, k < n → p k = false) → btF p n = 0
  | 0, _ => rfl
  | n + 1, h => by
    show btF p n ||| (if p n = true then _ else 0) = 0
    rw [btF_0 (fun k hk => h k (by omega)), h n (by omega)]
    simp
theorem ks_drop {T : TW} {σ : MM} (hV : VTn T) (hT : CTn T σ) (h0 : ¬ T.1 2 = 0) (d l u c : Int32) : ∃ τ, FX0_drop 12 d l u c σ = some (drS T d l u c, τ) ∧ eqr (fun b _ => b = 14) σ τ := by
  have e := fun k hk => (hT.2.2.2.2.2 k hk).resolve_left h0
  have hw := WF_cong e hV.2.1
  obtain ⟨τ, h1, h2⟩ := c_drop (hT.2.2.2.2.1.resolve_left h0) hV.1.2.2.2 hw d l u c
  refine ⟨τ, ?_, eqr_x h2⟩
  rw [h1]
  unfold drS
  rw [sv_ind (r1 := fun _ => 0) hw.1 (T.1 3) (Nat.le_refl _) 0 (by rw [hw.2]; decide), sv_cong e (T.1 3) (Nat.le_refl _)]
theorem ks_wetShirts {T : TW} {S : SK} {σ : MM} {a : Nat} (hT : CTn T σ) (h : ob a 4) (hS : CSk T a S σ) : FX4_wetShirts a σ = some (suS T S, σ) := by
  have h6 := hT.1.2.2.2.2.2
  have h3 := hT.1.2.2.1
  unfold FX4_wetShirts
  rw [sk0 h, sk1 h, sk2 h, r3_6]
  refine (bd_it (fun k => (hmF (fun c => decide (¬ S 1 c = -1) && (decide (¬ S 0 c ≤ 0) && decide (T.2 3 c = 1))) k, nI k)) (T.1 2) rfl ?_ ?_ (by omega)).trans rfl
  · intro k hk
    have e1 := ev_aI (a := a + 2) (σ := σ) (show k < 6 by omega) (by decide)
    have e2 := ev_aI (a := a + 1) (σ := σ) (show k < 6 by omega) (by decide)
    have e3 := ev_aI (a := 10) (σ := σ) (show k < 6 by omega) (by decide)
    rw [(hS.2 k hk).2.1] at e1
    rw [(hS.2 k hk).1] at e2
    rw [(hT.2.2.2.1 k hk).1] at e3
    by_cases q1 : S 1 k = -1
    · simp [bd, gI, h3, nle_n hk (by omega), e1, q1, hmF, lt, pu, nI_1]
    · by_cases q2 : S 0 k ≤ 0
      · simp [bd, gI, h3, nle_n hk (by omega), e1, e2, q1, q2, hmF, lt, pu, nI_1]
      · by_cases q3 : T.2 3 k = 1 <;> simp [bd, gI, h3, nle_n hk (by omega), e1, e2, e3, q1, q2, q3, hmF, lt, pu, nI_1]
  · refine (ev_bd (show gI 3 11 σ = some (nI (T.1 2), σ) by unfold gI; rw [h3])).trans ?_
    rw [if_pos (le_nn (by omega))]
    rfl
theorem mx0_if (x : Int32) : (if (0 : Int32) < x then x else 0) = mx0 x := rfl
theorem ks_pass {T : TW} {S : SK} {σ : MM} {a : Nat} (hV : VTn T) (hT : CTn T σ) (h : ob a 4) (hS : CSk T a S σ) (dr : Bool) : wp (FX4_passHour a (b2i dr)) σ (fun r τ => r = ddS T S dr ∧ CSk T a (paS T S dr) τ ∧ eqr (fun b j => b = 14 ∨ b = a + 1 ∨ (b = a ∧ j = 5)) σ τ) := by
  obtain ⟨ha1, ha2⟩ := sky_ge a h.1 h.2
  have h6 := hT.1.2.2.2.2.2
  have h3 := hT.1.2.2.1
  unfold FX4_passHour
  rw [sk0 h, sk1 h, sk2 h, sk3 h, r3_8]
  have fin : ∀ (τ : MM) (r : Int32), r = ddS T S dr → eqr (fun b j => b = 14 ∨ b = a + 1) σ τ → (∀ c, c < T.1 2 → τ.1 (a + 1) c = paS T S dr 0 c) → wp (bd (gI a 5) (fun x18 => bd (sI a 5 (x18 + (1 : Int32))) (fun (_ : Unit) => pu r))) τ (fun r τ => r = ddS T S dr ∧ CSk T a (paS T S dr) τ ∧ eqr (fun b j => b = 14 ∨ b = a + 1 ∨ (b = a ∧ j = 5)) σ τ) := by
    intro τ r hr hq hw
    refine ws_g (ws_s (wp_pu ⟨hr, ⟨?_, fun c hc => ⟨?_, ?_, ?_⟩⟩, eqr_tr (eqr_mono hq (fun b j q => by omega)) (eqr_up (by omega))⟩))
    · show up2 τ.1 a 5 (τ.1 a 5 + 1) a 5 = _
      rw [up2_at, hq.1 a 5 (by omega), hS.1]
      rfl
    · show up2 τ.1 a 5 (τ.1 a 5 + 1) (a + 1) c = _
      rw [up2_ne (by omega)]
      exact hw c hc
    · show up2 τ.1 a 5 (τ.1 a 5 + 1) (a + 2) c = _
      rw [up2_ne (by omega), hq.1 _ c (by omega)]
      exact (hS.2 c hc).2.1
    · show up2 τ.1 a 5 (τ.1 a 5 + 1) (a + 3) c = _
      rw [up2_ne (by omega), hq.1 _ c (by omega)]
      exact (hS.2 c hc).2.2
  cases dr with
  | false =>
    rw [if_pos (show b2i false = 0 from rfl)]
    refine wp_eq (show pu (0 : Int32) σ = some (0, σ) from rfl) ?_
    refine ws_it (fun k s τ => s = ((0 : Int32), (0 : Int32)) ∧ τ = σ) 0 (by decide) ⟨rfl, rfl⟩ ?_
    rintro k s τ hk ⟨rfl, rfl⟩
    rw [if_pos (show b2i false = 0 from rfl)]
    refine wp_pu (Or.inr ⟨_, rfl, fin τ 0 ?_ eqr_rf (fun c hc => (hS.2 c hc).1)⟩)
    exact (btF_0 (p := ddP T S false) (fun k _ => rfl)).symm
  | true =>
    rw [if_neg (show ¬ b2i true = 0 by decide)]
    refine wp_eq (show bd (FX4_wetShirts a) (fun x1 => pu x1) σ = some (suS T S, σ) by rw [ev_bd (ks_wetShirts hT h hS)]; rfl) ?_
    refine ws_it (fun k s τ => s = (btF (ddP T S true) k, nI k) ∧ eqr (fun b j => b = 14 ∨ b = a + 1) σ τ ∧ ∀ c, c < T.1 2 → τ.1 (a + 1) c = if c < k then nwS T S c else S 0 c) (T.1 2) (by omega) ⟨rfl, eqr_rf, fun c hc => by rw [if_neg (by omega)]; exact (hS.2 c hc).1⟩ ?_
    rintro k s τ hk ⟨rfl, hq, hw⟩
    rw [if_neg (show ¬ b2i true = 0 by decide)]
    have hT' : CTn T τ := CTn_r hq (fun b j h1 h2 => by omega) hT
    refine ws_gv hT'.1.2.2.1 ?_
    by_cases hkn : k < T.1 2
    · have nxt : ∀ (υ : MM) (r : Int32), r = btF (ddP T S true) (k + 1) → eqr (fun b j => b = 14 ∨ b = a + 1) σ υ → (∀ c, c < T.1 2 → υ.1 (a + 1) c = if c < k + 1 then nwS T S c else S 0 c) → wp (lt (nI k + (1 : Int32)) (fun y16 => pu (Sum.inl (r, y16))) : PP ((Int32 × Int32) ⊕ Int32)) υ (fun r υ => (∃ a', r = .inl a' ∧ k < T.1 2 ∧ (fun k (s : Int32 × Int32) τ => s = (btF (ddP T S true) k, nI k) ∧ eqr (fun b j => b = 14 ∨ b = a + 1) σ τ ∧ ∀ c, c < T.1 2 → τ.1 (a + 1) c = if c < k then nwS T S c else S 0 c) (k + 1) a' υ) ∨ (∃ b, r = .inr b ∧ wp (bd (gI a 5) (fun x18 => bd (sI a 5 (x18 + (1 : Int32))) (fun (_ : Unit) => pu b))) υ (fun r τ => r = ddS T S true ∧ CSk T a (paS T S true) τ ∧ eqr (fun b j => b = 14 ∨ b = a + 1 ∨ (b = a ∧ j = 5)) σ τ))) := by
        intro υ r hr hq' hw'
        rw [lt_eq]
        refine wp_pu (Or.inl ⟨_, rfl, hkn, ?_, hq', hw'⟩)
        rw [hr, nI_1]
      have keep : ∀ υ : MM, eqr (fun b j => b = 14) τ υ → nwS T S k = S 0 k → ∀ c, c < T.1 2 → υ.1 (a + 1) c = if c < k + 1 then nwS T S c else S 0 c := by
        intro υ hυ hn c hc
        rw [hυ.1 _ _ (by omega), hw c hc]
        by_cases q1 : c < k
        · rw [if_pos q1, if_pos (by omega)]
        · by_cases q2 : c = k
          · subst q2
            rw [if_neg q1, if_pos (by omega), hn]
          · rw [if_neg q1, if_neg (by omega)]
      rw [if_neg (nle_n hkn (by omega))]
      refine ws_a (by omega) (by decide) ((hq.1 (a + 2) k (by omega)).trans (hS.2 k hkn).2.1) ?_
      by_cases q1 : S 1 k = -1
      · rw [if_pos q1]
        refine wp_eq (show pu _ τ = some (_, τ) from rfl) (nxt τ _ ?_ hq (keep τ eqr_rf ?_))
        · show btF _ k = btF _ k ||| (if ddP T S true k = true then _ else 0)
          simp [ddP, q1]
        · simp [nwS, q1]
      · rw [if_neg q1]
        have hwk : τ.1 (a + 1) k = S 0 k := by rw [hw k hkn, if_neg (by omega)]
        by_cases q2 : S 0 k ≤ 0
        · refine wp_eq (x := btF (ddP T S true) k) (τ := τ) ?_ (nxt τ _ ?_ hq (keep τ eqr_rf ?_))
          · refine (ev_bd (ev_aI (show k < 6 by omega) (by decide))).trans ?_
            rw [hwk, if_pos q2]
            rfl
          · show btF _ k = btF _ k ||| (if ddP T S true k = true then _ else 0)
            simp [ddP, q2]
          · simp [nwS, q1, q2]
        · have hnw : nwS T S k = mx0 (S 0 k - drS T (S 0 k) (3 - S 2 k) (suS T S) (S 3 0)) := by simp [nwS, q1, q2]
          obtain ⟨υ, ed, hυ⟩ := ks_drop hV hT' (by omega) (S 0 k) (3 - S 2 k) (suS T S) (S 3 0)
          have hwu : υ.1 (a + 1) k = S 0 k := by rw [hυ.1 _ _ (by omega), hwk]
          refine wp_bd (Q := fun r ω => r = btF (ddP T S true) (k + 1) ∧ ω = (up2 υ.1 (a + 1) k (nwS T S k), υ.2)) ?_ ?_
          · refine ws_a (by omega) (by decide) hwk ?_
            rw [if_neg q2]
            refine ws_a (by omega) (by decide) hwk ?_
            refine ws_a (by omega) (by decide) ((hq.1 (a + 3) k (by omega)).trans (hS.2 k hkn).2.2) ?_
            refine ws_gv ((hq.1 a 5 (by omega)).trans hS.1) ?_
            refine wp_eq ed ?_
            refine ws_a (by omega) (by decide) hwu ?_
            rw [mx0_if, ← hnw]
            refine ws_u (by omega) (by decide) ?_
            refine ws_a (by omega) (by decide) up2_at ?_
            by_cases q3 : nwS T S k = 0
            · rw [if_pos q3]
              refine wp_eq (show pu _ _ = some (_, _) from rfl) ?_
              rw [lt_eq]
              refine wp_pu ⟨?_, rfl⟩
              show _ = btF _ k ||| (if ddP T S true k = true then _ else 0)
              simp [ddP, q1, q2, q3]
            · rw [if_neg q3]
              refine wp_eq (show pu _ _ = some (_, _) from rfl) ?_
              rw [lt_eq]
              refine wp_pu ⟨?_, rfl⟩
              show _ = btF _ k ||| (if ddP T S true k = true then _ else 0)
              simp [ddP, q1, q2, q3]
          · rintro r ω ⟨hr, rfl⟩
            refine nxt _ r hr (eqr_tr hq (eqr_tr (eqr_mono hυ (fun b j q => by omega)) (eqr_up (by omega)))) (fun c hc => ?_)
            show up2 υ.1 (a + 1) k (nwS T S k) (a + 1) c = _
            by_cases q4 : c = k
            · subst q4
              rw [up2_at, if_pos (by omega)]
            · rw [up2_ne (by omega), hυ.1 _ _ (by omega), hw c hc]
              by_cases q5 : c < k
              · rw [if_pos q5, if_pos (by omega)]
              · rw [if_neg q5, if_neg (by omega)]
    · have : k = T.1 2 := by omega
      subst this
      rw [if_pos (le_nn (by omega))]
      refine wp_pu (Or.inr ⟨_, rfl, fin τ _ rfl hq (fun c hc => ?_)⟩)
      rw [hw c hc, if_pos hc]
      rfl
