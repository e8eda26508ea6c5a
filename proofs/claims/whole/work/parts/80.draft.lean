/-! ===== a street under way ===== -/
abbrev NM : Type := Nat → Nat → List Nat
def DC (T : TW) (N : NM) (b : Bool) (σ : MM) : Prop := (σ.1 16 9 = nI (T.1 0) ∧ σ.1 16 10 = nI (T.1 1) ∧ σ.1 16 11 = nI (T.1 2)) ∧ (∀ l, l < T.1 0 → σ.1 20 l = T.2 0 l ∧ σ.1 21 l = T.2 1 l) ∧ (∀ p, p < T.1 1 → σ.1 22 p = T.2 2 p) ∧ (∀ c, c < T.1 2 → σ.1 23 c = T.2 3 c ∧ σ.1 24 c = T.2 4 c) ∧ (σ.1 25 2 = nI (T.1 3) ∧ ∀ k, k < T.1 3 → σ.1 26 k = T.2 5 k) ∧ σ.1 15 2 = b2i b ∧ CNb 17 T N σ
def DMt (T : TW) (σ : MM) : Prop := (σ.1 255 40 = nI (T.1 0) ∧ σ.1 255 41 = nI (T.1 1) ∧ σ.1 255 42 = nI (T.1 2)) ∧ (∀ l, l < T.1 0 → σ.1 255 (44 + 2 * l) = T.2 0 l ∧ σ.1 255 (45 + 2 * l) = T.2 1 l) ∧ (∀ p, p < T.1 1 → σ.1 255 (54 + p) = T.2 2 p) ∧ (∀ c, c < T.1 2 → σ.1 255 (58 + 2 * c) = T.2 3 c ∧ σ.1 255 (59 + 2 * c) = T.2 4 c) ∧ ∀ l, T.1 0 ≤ l → l < 5 → σ.1 255 (45 + 2 * l) = 0
def DMl (T : TW) (b : Bool) (σ : MM) : Prop := (b = false ∧ σ.1 255 43 = -1 ∧ σ.1 249 13 = 0) ∨ (b = true ∧ σ.1 255 43 = 0 ∧ σ.1 249 13 = nI (T.1 3 + 1) ∧ CMs (T.2 5) (T.1 3) σ ∧ σ.1 256 (1100 + T.1 3) = 0)
def DM (T : TW) (N : NM) (b : Bool) (σ : MM) : Prop := DMt T σ ∧ DMl T b σ ∧ MNb 259 261 19 T N σ
def DV (T : TW) (N : NM) (b : Bool) : Prop := VTn T ∧ VNa T N ∧ (b = false → T.1 3 = 3 ∧ T.2 5 0 = 1 ∧ T.2 5 1 = -2 ∧ T.2 5 2 = -10) ∧ ∀ l, l < T.1 0 → ∃ H, H < 32 ∧ T.2 1 l = nI H
def FDc (σ τ : MM) : Prop := (∀ b j, ¬ ((b = 1 ∧ j ≠ 1) ∨ (15 ≤ b ∧ b ≤ 27)) → τ.1 b j = σ.1 b j) ∧ ∀ b j, b ≠ 1 → ¬ (17 ≤ b ∧ b ≤ 19) → τ.2.1 b j = σ.2.1 b j
def RDm (b j : Nat) : Prop := (b = 249 ∧ (j = 7 ∨ j = 8 ∨ j = 13 ∨ j = 19)) ∨ (b = 255 ∧ 40 ≤ j) ∨ ((b = 256 ∨ b = 257) ∧ 1100 ≤ j) ∨ b = 261
def FDm (σ τ : MM) : Prop := (∀ b j, ¬ RDm b j → τ.1 b j = σ.1 b j) ∧ (∀ b j, b ≠ 259 → τ.2.1 b j = σ.2.1 b j) ∧ τ.2.2 = σ.2.2
theorem FDc_rf {σ : MM} : FDc σ σ := ⟨fun _ _ _ => rfl, fun _ _ _ _ => rfl⟩
theorem FDc_tr {σ τ υ : MM} (h1 : FDc σ τ) (h2 : FDc τ υ) : FDc σ υ := ⟨fun b j q => (h2.1 b j q).trans (h1.1 b j q), fun b j q q2 => (h2.2 b j q q2).trans (h1.2 b j q q2)⟩
theorem FDc_t {σ τ : MM} (h : FT σ τ) : FDc σ τ := ⟨fun b j q => (FEc_t h).1 b j (by omega), fun b j q _ => h.2.2 b j q⟩
theorem FDc_e {σ τ : MM} (h : FEc σ τ) : FDc σ τ := ⟨fun b j q => h.1 b j (by omega), fun b j q _ => h.2 b j q⟩
theorem FDm_rf {σ : MM} : FDm σ σ := ⟨fun _ _ _ => rfl, fun _ _ _ => rfl, rfl⟩
theorem FDm_tr {σ τ υ : MM} (h1 : FDm σ τ) (h2 : FDm τ υ) : FDm σ υ := ⟨fun b j q => (h2.1 b j q).trans (h1.1 b j q), fun b j q => (h2.2.1 b j q).trans (h1.2.1 b j q), h2.2.2.trans h1.2.2⟩
theorem FDm_r {R : Nat → Nat → Prop} {σ τ : MM} (h : eqr R σ τ) (hR : ∀ b j, R b j → RDm b j) : FDm σ τ := ⟨fun b j q => h.1 b j (fun z => q (hR b j z)), fun b j _ => by rw [h.2], by rw [h.2]⟩
theorem FDm_a {σ τ : MM} (h : eqr Rat σ τ) : FDm σ τ := FDm_r h (fun b j z => by unfold Rat at z; unfold RDm; omega)
theorem FDm_e {σ τ : MM} (h : eqr Rem σ τ) : FDm σ τ := FDm_r h (fun b j z => by unfold Rem at z; unfold RDm; omega)
theorem DC_t {T : TW} {N : NM} {b : Bool} {σ τ : MM} (h : FT σ τ) (hD : DC T N b σ) : DC T N b τ := by
  obtain ⟨⟨h1, h2, h3⟩, h4, h5, h6, ⟨h7, h8⟩, h9, h10⟩ := hD
  refine ⟨⟨(h.1 _ _ (by decide)).trans h1, (h.1 _ _ (by decide)).trans h2, (h.1 _ _ (by decide)).trans h3⟩, fun l hl => ?_, fun p hp => (h.1 _ _ (by decide)).trans (h5 p hp), fun c hc => ?_, ⟨(h.1 _ _ (by decide)).trans h7, fun k hk => (h.1 _ _ (by decide)).trans (h8 k hk)⟩, (h.1 _ _ (by decide)).trans h9, fun r hr i hi => (h.2.2 _ _ (by omega)).trans (h10 r hr i hi)⟩
  · rw [h.1 20 l (by decide), h.1 21 l (by decide)]; exact h4 l hl
  · rw [h.1 23 c (by decide), h.1 24 c (by decide)]; exact h6 c hc
theorem MNb_a {l a c : Nat} {T : TW} {N : NM} {R : Nat → Nat → Prop} {σ τ : MM} (h : eqr R σ τ) (hc : ¬ R 249 c) (ha : ∀ j, ¬ R a j) (hD : MNb l a c T N σ) : MNb l a c T N τ := by
  obtain ⟨h1, K, h2, h3⟩ := hD
  refine ⟨(h.1 _ _ hc).trans h1, K, fun k hk => ?_, h3⟩
  rw [h.2, h.1 _ _ (ha k)]
  exact h2 k hk
theorem DMt_r {T : TW} {R : Nat → Nat → Prop} {σ τ : MM} (h : eqr R σ τ) (hR : ∀ j, ¬ R 255 j) (hD : DMt T σ) : DMt T τ := by
  have e : ∀ j, τ.1 255 j = σ.1 255 j := fun j => h.1 _ _ (hR j)
  obtain ⟨⟨h1, h2, h3⟩, h4, h5, h6, h7⟩ := hD
  refine ⟨⟨(e _).trans h1, (e _).trans h2, (e _).trans h3⟩, fun l hl => ?_, fun p hp => (e _).trans (h5 p hp), fun c hc => ?_, fun l h1 h2 => (e _).trans (h7 l h1 h2)⟩
  · rw [e, e]; exact h4 l hl
  · rw [e, e]; exact h6 c hc
theorem CMs_r {L : Nat → Int32} {z : Nat} {σ τ : MM} (e : ∀ j, τ.1 256 j = σ.1 256 j) (e2 : ∀ j, τ.1 257 j = σ.1 257 j) (h : CMs L z σ) : CMs L z τ := by
  intro k hk
  rw [e, e2]
  exact h k hk
theorem DMl_e {T : TW} {b : Bool} {σ τ : MM} (e1 : τ.1 255 43 = σ.1 255 43) (e2 : τ.1 249 13 = σ.1 249 13) (e3 : ∀ j, τ.1 256 j = σ.1 256 j) (e4 : ∀ j, τ.1 257 j = σ.1 257 j) (h : DMl T b σ) : DMl T b τ := by
  rcases h with ⟨h1, h2, h3⟩ | ⟨h1, h2, h3, h4, h5⟩
  · exact Or.inl ⟨h1, e1.trans h2, e2.trans h3⟩
  · exact Or.inr ⟨h1, e1.trans h2, e2.trans h3, CMs_r e3 e4 h4, (e3 _).trans h5⟩
theorem DM_a {T : TW} {N : NM} {b : Bool} {σ τ : MM} (h : eqr Rat σ τ) (hD : DM T N b σ) : DM T N b τ := by
  have hr : ∀ b j, ¬ (b = 249 ∧ (j = 7 ∨ j = 8)) → ¬ Rat b j := fun b j n q => n (by unfold Rat at q; exact q)
  exact ⟨DMt_r h (fun j => hr _ _ (by omega)) hD.1, DMl_e (h.1 _ _ (hr _ _ (by omega))) (h.1 _ _ (hr _ _ (by omega))) (fun j => h.1 _ _ (hr _ _ (by omega))) (fun j => h.1 _ _ (hr _ _ (by omega))) hD.2.1, MNb_a h (hr _ _ (by omega)) (fun j => hr _ _ (by omega)) hD.2.2⟩
/-! a new name -/
def inT (T : TW) (r : Nat) : Nat → Nat := fun k => if k = r then T.1 r + 1 else T.1 k
def inW (T : TW) (N : NM) (r : Nat) (w : List Nat) : NM := fun q i => if q = r ∧ i = T.1 r then w else N q i
theorem inT_at {T : TW} {r : Nat} : inT T r r = T.1 r + 1 := by simp [inT]
theorem inT_ne {T : TW} {r k : Nat} (h : ¬ k = r) : inT T r k = T.1 k := by simp [inT, h]
theorem inT_s {T : TW} {r : Nat} (hr : r < 3) : inT T r 0 + inT T r 1 + inT T r 2 = T.1 0 + T.1 1 + T.1 2 + 1 := by
  by_cases q0 : r = 0
  · subst q0; rw [inT_at, inT_ne (by decide), inT_ne (by decide)]; omega
  by_cases q1 : r = 1
  · subst q1; rw [inT_at, inT_ne (by decide), inT_ne (by decide)]; omega
  have : r = 2 := by omega
  subst this
  rw [inT_at, inT_ne (by decide), inT_ne (by decide)]; omega
theorem inW_at {T : TW} {N : NM} {r : Nat} {w : List Nat} : inW T N r w r (T.1 r) = w := by simp [inW]
theorem inW_ne {T : TW} {N : NM} {r q i : Nat} {w : List Nat} (h : ¬ (q = r ∧ i = T.1 r)) : inW T N r w q i = N q i := by simp [inW, h]
theorem inT_c {T : TW} {r q i : Nat} (hi : i < inT T r q) : (q = r ∧ i = T.1 r) ∨ (i < T.1 q ∧ ¬ (q = r ∧ i = T.1 r)) := by
  by_cases h : q = r
  · subst h
    rw [inT_at] at hi
    by_cases h2 : i = T.1 q
    · exact Or.inl ⟨rfl, h2⟩
    · exact Or.inr ⟨by omega, fun z => h2 z.2⟩
  · rw [inT_ne h] at hi
    exact Or.inr ⟨hi, fun z => h z.1⟩
theorem inT_l {T : TW} {r q i : Nat} (hi : i < T.1 q) : i < inT T r q := by
  unfold inT
  split
  · rename_i h; subst h; omega
  · exact hi
theorem VNa_in {T T2 : TW} {N : NM} {r : Nat} {w : List Nat} (hr : r < 3) (hT : T2.1 = inT T r ∨ ∀ k, k < 3 → T2.1 k = inT T r k) (hw : isW w) (hn : ¬ tld T N w) (hV : VNa T N) : VNa T2 (inW T N r w) := by
  have hT' : ∀ k, k < 3 → T2.1 k = inT T r k := by
    rcases hT with h | h
    · intro k _; rw [h]
    · exact h
  refine ⟨fun q hq i hi => ?_, fun q s hq hs i j hi hj he => ?_⟩
  · rw [hT' q hq] at hi
    rcases inT_c hi with ⟨rfl, rfl⟩ | ⟨h1, h2⟩
    · rw [inW_at]; exact hw
    · rw [inW_ne h2]; exact hV.1 q hq i h1
  · rw [hT' q hq] at hi
    rw [hT' s hs] at hj
    rcases inT_c hi with ⟨rfl, rfl⟩ | ⟨h1, h2⟩
    · rcases inT_c hj with ⟨rfl, rfl⟩ | ⟨h3, h4⟩
      · exact ⟨rfl, rfl⟩
      · rw [inW_at, inW_ne h4] at he
        exact absurd ⟨s, j, hs, h3, he.symm⟩ hn
    · rcases inT_c hj with ⟨rfl, rfl⟩ | ⟨h3, h4⟩
      · rw [inW_at, inW_ne h2] at he
        exact absurd ⟨q, i, hq, h1, he⟩ hn
      · rw [inW_ne h2, inW_ne h4] at he
        exact hV.2 q s hq hs i j h1 h3 he
theorem MNb_in {l a c : Nat} {T T2 : TW} {N : NM} {r : Nat} {w : List Nat} {σ τ : MM} (hr : r < 3) (hT : ∀ k, k < 3 → T2.1 k = inT T r k) (h1 : τ.1 249 c = nI (T.1 0 + T.1 1 + T.1 2 + 1)) (h2 : ∀ k, k < T.1 0 + T.1 1 + T.1 2 → τ.2.1 l k = σ.2.1 l k ∧ τ.1 a k = σ.1 a k) (h3 : τ.2.1 l (T.1 0 + T.1 1 + T.1 2) = p37 w) (h4 : τ.1 a (T.1 0 + T.1 1 + T.1 2) = nI (20 * r + T.1 r)) (hN : MNb l a c T N σ) : MNb l a c T2 (inW T N r w) τ := by
  obtain ⟨k1, K, k2, k3⟩ := hN
  have es : T2.1 0 + T2.1 1 + T2.1 2 = T.1 0 + T.1 1 + T.1 2 + 1 := by rw [hT 0 (by decide), hT 1 (by decide), hT 2 (by decide)]; exact inT_s hr
  unfold MNb
  rw [es]
  refine ⟨h1, fun k => if k = T.1 0 + T.1 1 + T.1 2 then (r, T.1 r) else K k, fun k hk => ?_, fun q hq i hi => ?_⟩
  · by_cases z : k = T.1 0 + T.1 1 + T.1 2
    · subst z
      simp only [if_true]
      refine ⟨hr, ?_, ?_, ?_⟩
      · show T.1 r < T2.1 r
        rw [hT r hr, inT_at]; omega
      · show τ.2.1 l _ = p37 (inW T N r w r (T.1 r))
        rw [inW_at]; exact h3
      · exact h4
    · simp only [if_neg z]
      obtain ⟨l1, l2, l3, l4⟩ := k2 k (by omega)
      obtain ⟨e1, e2⟩ := h2 k (by omega)
      refine ⟨l1, ?_, ?_, e2.trans l4⟩
      · rw [hT _ l1]; exact inT_l l2
      · rw [e1, l3, inW_ne (fun q => by
          have h1 := q.1
          have h2 := q.2
          rw [h1] at l2
          omega)]
  · rw [hT q hq] at hi
    rcases inT_c hi with ⟨rfl, rfl⟩ | ⟨q1, q2⟩
    · exact ⟨T.1 0 + T.1 1 + T.1 2, by omega, by simp⟩
    · obtain ⟨k, m1, m2⟩ := k3 q hq i q1
      refine ⟨k, by omega, ?_⟩
      show (if _ then _ else _) = _
      rw [if_neg (by omega), m2]
/-- the head of a line: its word, and a new name -/
def hd (Q : TA) (T : TW) (N : NM) (full : Bool) (t : Nat) (R : Nat × Nat) : Prop := (full = true ∧ R = (t, fc Q 5 t)) ∨ (full = false ∧ nmB Q (t + 1) = false ∧ R = (t + 1, fc Q 1 (t + 1))) ∨ (full = false ∧ nmB Q (t + 1) = true ∧ tld T N (wT Q (tp Q (t + 1))) ∧ R = (t + 1, fc Q 3 (t + 1))) ∨ (full = false ∧ nmB Q (t + 1) = true ∧ ¬ tld T N (wT Q (tp Q (t + 1))) ∧ R = (t + 2, 0))
theorem hd_ex (Q : TA) (T : TW) (N : NM) (full : Bool) (t : Nat) : ∃ R, hd Q T N full t R := by
  cases full with
  | true => exact ⟨_, Or.inl ⟨rfl, rfl⟩⟩
  | false =>
    cases hb : nmB Q (t + 1) with
    | false => exact ⟨_, Or.inr (Or.inl ⟨rfl, hb, rfl⟩)⟩
    | true =>
      by_cases z : tld T N (wT Q (tp Q (t + 1)))
      · exact ⟨_, Or.inr (Or.inr (Or.inl ⟨rfl, hb, z, rfl⟩))⟩
      · exact ⟨_, Or.inr (Or.inr (Or.inr ⟨rfl, hb, z, rfl⟩))⟩
theorem hd_E {Q : TA} {T : TW} {N : NM} {full : Bool} {t : Nat} {R : Nat × Nat} (vQ : VTa Q) (h : hd Q T N full t R) : R.2 < 20000 ∧ t ≤ R.1 ∧ R.1 ≤ t + 2 ∧ (R.2 = 0 → full = false ∧ isW (wT Q (tp Q (t + 1))) ∧ ¬ tld T N (wT Q (tp Q (t + 1))) ∧ R.1 = t + 2 ∧ nmB Q (t + 1) = true) := by
  rcases h with ⟨h, rfl⟩ | ⟨h, h1, rfl⟩ | ⟨h, h1, h2, rfl⟩ | ⟨h, h1, h2, rfl⟩
  · exact ⟨fc_lt vQ (by decide), by show t ≤ t; omega, by show t ≤ t + 2; omega, fun q => absurd q (fc_ne (by decide))⟩
  · exact ⟨fc_lt vQ (by decide), by show t ≤ t + 1; omega, by show t + 1 ≤ t + 2; omega, fun q => absurd q (fc_ne (by decide))⟩
  · exact ⟨fc_lt vQ (by decide), by show t ≤ t + 1; omega, by show t + 1 ≤ t + 2; omega, fun q => absurd q (fc_ne (by decide))⟩
  · exact ⟨by show 0 < 20000; decide, by show t ≤ t + 2; omega, by show t + 2 ≤ t + 2; omega, fun _ => ⟨h, wT_ok (tp_le _) (nm_1 h1), h2, rfl, h1⟩⟩
theorem c_head {Q : TA} {T : TW} {N : NM} {b full : Bool} {t : Nat} {R : Nat × Nat} {β : Type} {K : Int64 → PP β} {P : β → MM → Prop} {σ : MM} (vQ : VTa Q) (hV : DV T N b) (hS : SC Q t 0 σ) (hD : DC T N b σ) (hR : hd Q T N full t R) (h : ∀ x τ, SC Q R.1 R.2 τ → FT σ τ → (R.2 = 0 → x = p32 (wT Q (tp Q (t + 1)))) → wp (K x) τ P) : wp (bd (FX8_skipUnlessFull 15 (b2i full)) (fun (_ : Unit) => bd (FX8_newName 15) K)) σ P := by
  unfold FX8_skipUnlessFull FX8_newName
  rw [r15_0, r15_1]
  cases full with
  | true =>
    rw [if_neg (show ¬ b2i true = 0 by decide)]
    refine bd_asw (bd_asw (wp_bd (c_fail (k := 5) (by decide) (by decide) hS) (fun _ τ q => ?_)))
    refine wp_eq (show pu () τ = some ((), τ) from rfl) ?_
    rcases hR with ⟨_, rfl⟩ | ⟨h, _⟩ | ⟨h, _⟩ | ⟨h, _⟩
    · have h20 := fc_lt (t := t) vQ (show 5 < 10 by decide)
      have h21 := fc_ne (Q := Q) (k := 5) (t := t) (by decide)
      refine wp_eq (show pu () τ = some ((), τ) from rfl) ?_
      refine bd_asw (ws_gL rfl (bd_asw (wp_eq (c_isName q.1) ?_)))
      have hf5 : fE Q 5 t 0 = fc Q 5 t := rfl
      have : (decide (fE Q 5 t 0 = 0) && nmB Q t) = false := by rw [hf5]; simp [h21]
      rw [this, if_pos (show b2i false = 0 from rfl)]
      refine bd_asw (bd_asw (wp_bd (c_fail (k := 1) (by decide) (by rw [hf5]; exact h20) q.1) (fun _ τ2 q2 => ?_)))
      have e : fE Q 1 t (fE Q 5 t 0) = fc Q 5 t := by rw [hf5]; unfold fE; rw [if_neg h21]
      rw [e] at q2
      refine wp_eq (show pu () τ2 = some ((), τ2) from rfl) (wp_eq (show pu _ τ2 = some (_, τ2) from rfl) (h _ τ2 q2.1 (FT_tr q.2 q2.2) (fun z => absurd z h21)))
    · cases h
    · cases h
    · cases h
  | false =>
    rw [if_pos (show b2i false = 0 from rfl)]
    refine bd_asw (bd_asw (wp_bd (c_adv vQ hS) (fun _ τ q => ?_)))
    refine wp_eq (show pu () τ = some ((), τ) from rfl) (wp_eq (show pu () τ = some ((), τ) from rfl) ?_)
    refine bd_asw (ws_gL rfl (bd_asw (wp_eq (c_isName q.1) ?_)))
    have hD2 := DC_t q.2 hD
    have told : nmB Q (t + 1) = true → wp (FX7_isTold 16 (τ.2.1 1 4)) τ (fun x υ => υ = τ ∧ (x = true ↔ tld T N (wT Q (tp Q (t + 1))))) := by
      intro hb
      have hy := nm_1 hb
      rw [(q.1.2.2.1 rfl).2.2.1 hy]
      exact c_isTold hV.1.1.1 hV.1.1.2.1 hV.1.1.2.2.1 (wT_ok (tp_le _) hy) hV.2.1.1 hD2.1.1 hD2.1.2.1 hD2.1.2.2 hD2.2.2.2.2.2.2
    rcases hR with ⟨h1, _⟩ | ⟨_, hb, rfl⟩ | ⟨_, hb, ht, rfl⟩ | ⟨_, hb, ht, rfl⟩
    · cases h1
    · rw [hb, if_pos (show b2i (decide ((0 : Nat) = 0) && false) = 0 from rfl)]
      refine bd_asw (bd_asw (wp_bd (c_fail (k := 1) (by decide) (by decide) q.1) (fun _ τ2 q2 => ?_)))
      exact wp_eq (show pu () τ2 = some ((), τ2) from rfl) (wp_eq (show pu _ τ2 = some (_, τ2) from rfl) (h _ τ2 q2.1 (FT_tr q.2 q2.2) (fun z => absurd z (fc_ne (by decide)))))
    · rw [hb, if_neg (show ¬ b2i (decide ((0 : Nat) = 0) && true) = 0 by decide)]
      refine bd_asw (bd_asw (wp_bd (told hb) ?_))
      rintro x υ ⟨rfl, hx⟩
      rw [hx.mpr ht, if_neg (show ¬ b2i true = 0 by decide)]
      refine bd_asw (wp_bd (c_fail (k := 3) (by decide) (by decide) q.1) (fun _ τ2 q2 => ?_))
      exact wp_eq (show pu () τ2 = some ((), τ2) from rfl) (wp_eq (show pu _ τ2 = some (_, τ2) from rfl) (h _ τ2 q2.1 (FT_tr q.2 q2.2) (fun z => absurd z (fc_ne (by decide)))))
    · rw [hb, if_neg (show ¬ b2i (decide ((0 : Nat) = 0) && true) = 0 by decide)]
      refine bd_asw (bd_asw (wp_bd (told hb) ?_))
      rintro x υ ⟨rfl, hx⟩
      have hxf : x = false := by
        cases x with
        | false => rfl
        | true => exact absurd (hx.mp rfl) ht
      rw [hxf, if_pos (show b2i false = 0 from rfl)]
      refine bd_asw (wp_bd (c_adv vQ q.1) (fun _ τ2 q2 => ?_))
      refine wp_eq (show pu () τ2 = some ((), τ2) from rfl) (wp_eq (show pu _ τ2 = some (_, τ2) from rfl) (h _ τ2 q2.1 (FT_tr q.2 q2.2) (fun _ => (q.1.2.2.1 rfl).2.2.1 (nm_1 hb))))
