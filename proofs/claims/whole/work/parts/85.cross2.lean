/-! ===== lines among lines ===== -/
def pc5 (H : Nat) : Nat := H % 2 + H / 2 % 2 + H / 4 % 2 + H / 8 % 2 + H / 16 % 2
def orB (H j : Nat) : Nat := if H / 2 ^ j % 2 = 1 then H else H + 2 ^ j
theorem bt5 : ∀ H, H < 32 → ∀ j, j < 5 → (((nI H >>> (nI j &&& 31)) &&& 1 = 1) ↔ H / 2 ^ j % 2 = 1) ∧ nI H ||| ((1 : Int32) <<< (nI j &&& 31)) = nI (orB H j) ∧ orB H j < 32 ∧ (¬ H / 2 ^ j % 2 = 1 → pc5 (orB H j) = pc5 H + 1) ∧ ¬ orB H j = 0 ∧ pc5 H ≤ 5 := by decide +kernel
theorem or5 : ∀ H, H < 32 → ∀ i, i < 5 → ∀ j, j < 5 → (orB H i / 2 ^ j % 2 = 1 ↔ j = i ∨ H / 2 ^ j % 2 = 1) := by decide +kernel
def lo (Q : TA) (T : TW) (t H : Nat) (L : Option Nat × Nat) (R : Nat × Nat × Nat) : Prop := (L.1 = none ∧ R = (t, L.2, H)) ∨ ∃ i, L.1 = some i ∧ i < T.1 0 ∧ ((H / 2 ^ i % 2 = 1 ∧ R = (t, fc Q 3 t, H)) ∨ (¬ H / 2 ^ i % 2 = 1 ∧ R = (t + 1, 0, orB H i)))
theorem lk_s {Q : TA} {N : Nat → List Nat} {n t E : Nat} {L : Option Nat × Nat} {i : Nat} (h : lk Q N n t E L) (hi : L.1 = some i) : i < n ∧ L.2 = 0 := by
  rcases h with ⟨rfl, h⟩ | ⟨rfl, h1, h⟩ | ⟨rfl, h1, h, h2⟩ | ⟨i2, hi2, rfl, h1, h, h2⟩
  · cases hi
  · cases hi
  · cases hi
  · have : i2 = i := Option.some.inj hi
    subst this
    exact ⟨hi2, rfl⟩
theorem lo_ex {Q : TA} {T : TW} {N : NM} {t E H : Nat} {L : Option Nat × Nat} (hL : lk Q (N 0) (T.1 0) t E L) : ∃ R, lo Q T t H L R := by
  cases h : L.1 with
  | none => exact ⟨_, Or.inl ⟨h, rfl⟩⟩
  | some i =>
    have hi := (lk_s hL h).1
    by_cases z : H / 2 ^ i % 2 = 1
    · exact ⟨_, Or.inr ⟨i, h, hi, Or.inl ⟨z, rfl⟩⟩⟩
    · exact ⟨_, Or.inr ⟨i, h, hi, Or.inr ⟨z, rfl⟩⟩⟩
theorem lo_m {Q : TA} {T : TW} {N : NM} {m t E H : Nat} {L : Option Nat × Nat} {R : Nat × Nat × Nat} (vQ : VTa Q) (hend : yT Q (tp Q m) = 0) (ht : t ≤ m) (hE : E < 20000) (h5 : T.1 0 ≤ 5) (hH : H < 32) (hL : lk Q (N 0) (T.1 0) t E L) (h : lo Q T t H L R) : R.1 ≤ m ∧ t ≤ R.1 ∧ R.2.1 < 20000 ∧ R.2.2 < 32 ∧ (R.2.1 = 0 → E = 0 ∧ t < R.1 ∧ ∃ i, L.1 = some i ∧ i < T.1 0 ∧ ¬ H / 2 ^ i % 2 = 1 ∧ R = (t + 1, 0, orB H i)) ∧ (¬ R.2.1 = 0 → R.2.2 = H ∧ R.1 = t) := by
  obtain ⟨l1, l2, l3⟩ := lk_E vQ hE hL
  rcases h with ⟨h1, rfl⟩ | ⟨i, h1, hi, ⟨z, rfl⟩ | ⟨z, rfl⟩⟩
  · exact ⟨ht, Nat.le_refl t, l1, hH, fun q => absurd q (l2.mp h1), fun _ => ⟨rfl, rfl⟩⟩
  · exact ⟨ht, Nat.le_refl t, fc_lt vQ (by decide), hH, fun q => absurd q (fc_ne (by decide)), fun _ => ⟨rfl, rfl⟩⟩
  · have h20 : L.2 = 0 := (lk_s hL h1).2
    have hy : yT Q (tp Q t) = 1 := lk_y hL h20 (fun _ _ => trivial)
    exact ⟨t_ltm hend ht (by omega), Nat.le_succ t, by show 0 < 20000; decide, (bt5 H hH i (by omega)).2.2.1, fun _ => ⟨l3 h20, Nat.lt_succ_self t, i, h1, hi, z, rfl⟩, fun q => absurd rfl q⟩
theorem c_lineOutside {Q : TA} {T : TW} {N : NM} {b : Bool} {t E H : Nat} {L : Option Nat × Nat} {R : Nat × Nat × Nat} {σ : MM} (vQ : VTa Q) (hV : DV T N b) (hE : E < 20000) (hH : H < 32) (hS : SC Q t E σ) (hN : CNb 17 T N σ) (e9 : σ.1 16 9 = nI (T.1 0)) (hL : lk Q (N 0) (T.1 0) t E L) (hR : lo Q T t H L R) : wp (FX8_lineOutside 15 (nI H)) σ (fun x τ => nI H ||| x = nI R.2.2 ∧ (∀ i, L.1 = some i → R.2.1 = 0 → x = (1 : Int32) <<< (nI i &&& 31)) ∧ SC Q R.1 R.2.1 τ ∧ FT σ τ) := by
  have h5 := hV.1.1.1
  unfold FX8_lineOutside
  rw [r15_0, r15_1, r16_0]
  refine ws_gv e9 (wp_bd (c_findName (N := N 0) hE h5 (by decide) (fun i hi => hV.2.1.1 0 (by decide) i hi) (fun i hi => hN 0 (by decide) i hi) hS hL (fun i j hi hj he => (hV.2.1.2 0 0 (by decide) (by decide) i j hi hj he).2)) ?_)
  rintro x τ ⟨rfl, s1, f1⟩
  rcases hR with ⟨h1, rfl⟩ | ⟨i, h1, hi, ⟨z, rfl⟩ | ⟨z, rfl⟩⟩
  · rw [h1, if_pos (show oI none (-1) = -1 from rfl)]
    refine wp_pu ⟨by simp, fun i q => absurd q (by simp), s1, f1⟩
  · have e0 : L.2 = 0 := (lk_s hL h1).2
    rw [e0] at s1
    rw [h1, show oI (some i) (-1) = nI i from rfl, if_neg (nI_n1 (by omega)), if_pos ((bt5 H hH i (by omega)).1.mpr z)]
    refine wp_bd (c_fail (k := 3) (by decide) (by decide) s1) (fun _ τ2 q => wp_pu ⟨by simp, fun i q z => absurd z (fc_ne (by decide)), q.1, FT_tr f1 q.2⟩)
  · have e0 : L.2 = 0 := (lk_s hL h1).2
    rw [e0] at s1
    rw [h1, show oI (some i) (-1) = nI i from rfl, if_neg (nI_n1 (by omega)), if_neg (fun q => z ((bt5 H hH i (by omega)).1.mp q))]
    refine wp_bd (c_adv vQ s1) (fun _ τ2 q => wp_pu ⟨(bt5 H hH i (by omega)).2.1, fun i2 q2 _ => ?_, q.1, FT_tr f1 q.2⟩)
    cases q2
    rfl
def crT (T : TW) (i j : Nat) (u v : Int32) : TW := (T.1, up2 (up2 T.2 1 i u) 1 j v)
theorem crT_r {T : TW} {i j k : Nat} {u v : Int32} (h : k ≠ 1) : (crT T i j u v).2 k = T.2 k := by
  show up2 (up2 T.2 1 i u) 1 j v k = T.2 k
  rw [up2_rw h, up2_rw h]
theorem c_addCrossing {Q : TA} {t i j Hi Hj : Nat} {T : TW} {N : NM} {b : Bool} {σ : MM} (h5 : T.1 0 ≤ 5) (hi : i < T.1 0) (hj : j < T.1 0) (hij : ¬ i = j) (hHi : Hi < 32) (hHj : Hj < 32) (ei : T.2 1 i = nI Hi) (ej : T.2 1 j = nI Hj) (hS : SC Q t 0 σ) (hD : DC T N b σ) : wp (FX7_addCrossing 16 (nI i) (nI j)) σ (fun _ τ => SC Q t 0 τ ∧ DC (crT T i j (nI (orB Hi j)) (nI (orB Hj i))) N b τ ∧ FDc σ τ) := by
  have hl : ∀ k, k < T.1 0 → FX7_hasLine 16 (nI k) σ = some (true, σ) := by
    intro k hk
    unfold FX7_hasLine
    rw [if_neg (nI_pos (by omega)), bd_as]
    refine (ev_bd (show gI 16 9 σ = some (_, σ) by unfold gI; rw [hD.1.1])).trans ?_
    rw [if_neg (nle_n hk (by omega))]
    rfl
  obtain ⟨⟨a1, a2, a3⟩, a4, a5, a6, ⟨a7, a8⟩, a9, a10⟩ := hD
  unfold FX7_addCrossing
  rw [r16_4]
  refine wp_eq (hl i hi) ?_
  rw [if_neg (show ¬ b2i true = 0 by decide)]
  refine bd_asw (wp_eq (hl j hj) ?_)
  rw [if_neg (show ¬ b2i true = 0 by decide)]
  refine bd_asw (ws_a (i := i) (by omega) (by decide) ((a4 i hi).2.trans ei) ?_)
  rw [(bt5 Hi hHi j (by omega)).2.1]
  refine bd_asw (ws_u (by omega) (by decide) (bd_asw (ws_a (i := j) (by omega) (by decide) (x := nI Hj) ((mm_ne (by omega)).trans ((a4 j hj).2.trans ej)) ?_)))
  rw [(bt5 Hj hHj i (by omega)).2.1]
  refine bd_asw (ws_u (by omega) (by decide) (wp_eq (show pu () _ = some ((), _) from rfl) (wp_pu ?_)))
  have fq : ∀ b k, ¬ b = 21 → up2 (up2 σ.1 21 i (nI (orB Hi j))) 21 j (nI (orB Hj i)) b k = σ.1 b k := fun b k n => by rw [up2_ne (by omega), up2_ne (by omega)]
  refine ⟨SC_f hS (fun k => fq 1 k (by omega)) (fun k => fq 2 k (by omega)) rfl rfl, ⟨⟨(fq _ _ (by omega)).trans a1, (fq _ _ (by omega)).trans a2, (fq _ _ (by omega)).trans a3⟩, fun l hl => ⟨?_, ?_⟩, fun p hp => ?_, fun c hc => ⟨?_, ?_⟩, ⟨(fq _ _ (by omega)).trans a7, fun k hk => ?_⟩, (fq _ _ (by omega)).trans a9, a10⟩, fun b k n => fq b k (by omega), fun _ _ _ _ => rfl⟩
  · rw [crT_r (by decide)]; exact (fq _ _ (by omega)).trans (a4 l hl).1
  · show up2 (up2 σ.1 21 i (nI (orB Hi j))) 21 j (nI (orB Hj i)) 21 l = up2 (up2 T.2 1 i (nI (orB Hi j))) 1 j (nI (orB Hj i)) 1 l
    by_cases q1 : l = j
    · subst q1; rw [up2_at, up2_at]
    · rw [up2_ne (by omega), up2_ne (show ¬ (1 = 1 ∧ l = j) by omega)]
      by_cases q2 : l = i
      · subst q2; rw [up2_at, up2_at]
      · rw [up2_ne (by omega), up2_ne (by omega)]; exact (a4 l hl).2
  · rw [crT_r (by decide)]; exact (fq _ _ (by omega)).trans (a5 p hp)
  · rw [crT_r (by decide)]; exact (fq _ _ (by omega)).trans (a6 c hc).1
  · rw [crT_r (by decide)]; exact (fq _ _ (by omega)).trans (a6 c hc).2
  · rw [crT_r (by decide)]; exact (fq _ _ (by omega)).trans (a8 k hk)
theorem DV_cr {T : TW} {N : NM} {b : Bool} {i j Hi Hj : Nat} (hV : DV T N b) (hi : i < T.1 0) (hj : j < T.1 0) (hHi : Hi < 32) (hHj : Hj < 32) : DV (crT T i j (nI (orB Hi j)) (nI (orB Hj i))) N b := by
  obtain ⟨⟨a0, a5, a6, a7⟩, h2, h3, h4⟩ := hV
  refine ⟨⟨a0, ?_, fun c hc => ?_, fun l hl => ?_⟩, h2, fun q => ?_, fun l hl => ?_⟩
  · rw [crT_r (by decide)]; exact a5
  · rw [crT_r (by decide), crT_r (by decide)]; exact a6 c hc
  · rw [crT_r (by decide)]; exact a7 l hl
  · rw [crT_r (by decide)]; exact h3 q
  · show ∃ H, H < 32 ∧ up2 (up2 T.2 1 i (nI (orB Hi j))) 1 j (nI (orB Hj i)) 1 l = nI H
    by_cases q1 : l = j
    · subst q1; exact ⟨_, (bt5 Hj hHj i (by omega)).2.2.1, up2_at⟩
    · rw [up2_ne (by omega)]
      by_cases q2 : l = i
      · subst q2; exact ⟨_, (bt5 Hi hHi j (by omega)).2.2.1, up2_at⟩
      · rw [up2_ne (by omega)]; exact h4 l hl
theorem DM_cr {T : TW} {N : NM} {b : Bool} {i j : Nat} {u v : Int32} {σ : MM} (h5 : T.1 0 ≤ 5) (h4 : T.1 1 ≤ 4) (hi : i < T.1 0) (hj : j < T.1 0) (hij : ¬ i = j) (hD : DM T N b σ) : DM (crT T i j u v) N b (up2 (up2 σ.1 255 (45 + 2 * i) u) 255 (45 + 2 * j) v, σ.2) := by
  obtain ⟨⟨⟨a1, a2, a3⟩, a4, a5, a6, a7⟩, b1, c1⟩ := hD
  have fq : ∀ k, k ≠ 45 + 2 * i → k ≠ 45 + 2 * j → up2 (up2 σ.1 255 (45 + 2 * i) u) 255 (45 + 2 * j) v 255 k = σ.1 255 k := fun k n1 n2 => by rw [up2_ne (by omega), up2_ne (by omega)]
  have fx : ∀ b k, b ≠ 255 → up2 (up2 σ.1 255 (45 + 2 * i) u) 255 (45 + 2 * j) v b k = σ.1 b k := fun b k n => by rw [up2_ne (by omega), up2_ne (by omega)]
  have hq : eqr (fun b k => b = 255) σ (up2 (up2 σ.1 255 (45 + 2 * i) u) 255 (45 + 2 * j) v, σ.2) := ⟨fun b k n => fx b k n, rfl⟩
  refine ⟨⟨⟨(fq 40 (by omega) (by omega)).trans a1, (fq 41 (by omega) (by omega)).trans a2, (fq 42 (by omega) (by omega)).trans a3⟩, fun l hl => ⟨?_, ?_⟩, fun p hp => ?_, fun c hc => ⟨?_, ?_⟩, fun l k1 k2 => ?_⟩, ?_, MNb_n (T := T) (fun k _ => rfl) (MNb_a hq (by omega) (fun k => by omega) c1)⟩
  · rw [crT_r (by decide)]; exact (fq _ (by omega) (by omega)).trans (a4 l hl).1
  · show up2 (up2 σ.1 255 (45 + 2 * i) u) 255 (45 + 2 * j) v 255 (45 + 2 * l) = up2 (up2 T.2 1 i u) 1 j v 1 l
    by_cases q1 : l = j
    · subst q1; rw [up2_at, up2_at]
    · rw [up2_ne (by omega), up2_ne (show ¬ (1 = 1 ∧ l = j) by omega)]
      by_cases q2 : l = i
      · subst q2; rw [up2_at, up2_at]
      · rw [up2_ne (by omega), up2_ne (by omega)]; exact (a4 l hl).2
  · rw [crT_r (by decide)]
    have hp : p < T.1 1 := hp
    exact (fq _ (by omega) (by omega)).trans (a5 p hp)
  · rw [crT_r (by decide)]; exact (fq _ (by omega) (by omega)).trans (a6 c hc).1
  · rw [crT_r (by decide)]; exact (fq _ (by omega) (by omega)).trans (a6 c hc).2
  · have k1 : T.1 0 ≤ l := k1
    exact (fq _ (by omega) (by omega)).trans (a7 l k1 k2)
  · have e := DMl_e (T := T) (b := b) (σ := σ) (τ := (up2 (up2 σ.1 255 (45 + 2 * i) u) 255 (45 + 2 * j) v, σ.2)) (fq 43 (by omega) (by omega)) (fx 249 13 (by decide)) (fun k => fx 256 k (by decide)) (fun k => fx 257 k (by decide)) b1
    unfold DMl at e ⊢
    rw [crT_r (by decide)]
    exact e
