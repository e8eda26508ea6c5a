/-! ===== deeds ===== -/
def puS (S : SK) (c : Nat) (l k : Int32) : SK := up2 (up2 S 1 c l) 2 c k
def dnS (S : SK) (c : Nat) : SK := puS S c (-1) 0
def soS (T : TW) (S : SK) (c : Nat) : SK := up2 S 0 c (T.2 4 c)
def beS (T : TW) : SK := fun r c => if r = 0 then T.2 4 c else if r = 1 then -1 else 0
theorem pu_0 {S : SK} {c d : Nat} {l k : Int32} : puS S c l k 0 d = S 0 d := by simp [puS, up2]
theorem pu_1 {S : SK} {c d : Nat} {l k : Int32} : puS S c l k 1 d = if d = c then l else S 1 d := by simp [puS, up2]
theorem pu_2 {S : SK} {c d : Nat} {l k : Int32} : puS S c l k 2 d = if d = c then k else S 2 d := by simp [puS, up2]
theorem pu_3 {S : SK} {c d : Nat} {l k : Int32} : puS S c l k 3 d = S 3 d := by simp [puS, up2]
theorem VSk_pu {T : TW} {S : SK} {c : Nat} {l k : Int32} (hv : VSk T S) (hl : l = -1 ∨ ∃ q, q < T.1 0 ∧ l = nI q) (hk : ∃ q, q ≤ 3 ∧ k = nI q) : VSk T (puS S c l k) := by
  intro d hd
  rw [pu_0, pu_1, pu_2]
  by_cases q : d = c
  · rw [if_pos q, if_pos q]; exact ⟨(hv d hd).1, hl, hk⟩
  · rw [if_neg q, if_neg q]; exact hv d hd
theorem VSk_dn {T : TW} {S : SK} {c : Nat} (hv : VSk T S) : VSk T (dnS S c) := VSk_pu hv (Or.inl rfl) ⟨0, by decide, rfl⟩
theorem VSk_so {T : TW} {S : SK} {c : Nat} (hV : VTn T) (hv : VSk T S) : VSk T (soS T S c) := by
  intro d hd
  refine ⟨?_, ?_, ?_⟩
  · show ∃ w, w ≤ 20 ∧ up2 S 0 c (T.2 4 c) 0 d = nI w
    by_cases q : d = c
    · subst q
      rw [up2_at]
      obtain ⟨w, -, h2, h3⟩ := (hV.2.2.1 d hd).2
      exact ⟨w, h2, h3⟩
    · rw [up2_ne (by omega)]; exact (hv d hd).1
  · show up2 S 0 c (T.2 4 c) 1 d = -1 ∨ ∃ l, l < T.1 0 ∧ up2 S 0 c (T.2 4 c) 1 d = nI l
    rw [up2_ne (by omega)]; exact (hv d hd).2.1
  · show ∃ k, k ≤ 3 ∧ up2 S 0 c (T.2 4 c) 2 d = nI k
    rw [up2_ne (by omega)]; exact (hv d hd).2.2
theorem VSk_be {T : TW} (hV : VTn T) : VSk T (beS T) := by
  intro d hd
  obtain ⟨w, -, h2, h3⟩ := (hV.2.2.1 d hd).2
  exact ⟨⟨w, h2, h3⟩, Or.inl rfl, ⟨0, by decide, rfl⟩⟩
theorem ks_putUp {T : TW} {S : SK} {σ : MM} {a c : Nat} {l k : Int32} (h6 : T.1 2 ≤ 6) (h : ob a 4) (hS : CSk T a S σ) (hc : c < T.1 2) : ∃ τ, FX4_putUp a (nI c) l k σ = some ((), τ) ∧ CSk T a (puS S c l k) τ ∧ eqr (fun b _ => b = a + 2 ∨ b = a + 3) σ τ := by
  refine ⟨(up2 (up2 σ.1 (a + 2) c l) (a + 3) c k, σ.2), ?_, ⟨?_, fun d hd => ?_⟩, ?_⟩
  · unfold FX4_putUp
    rw [sk2 h, sk3 h, ev_bd (ev_uI (by omega) (by decide)), ev_bd (ev_uI (by omega) (by decide))]
    rfl
  · show up2 (up2 σ.1 (a + 2) c l) (a + 3) c k a 5 = _
    rw [up2_ne (by omega), up2_ne (by omega), pu_3]
    exact hS.1
  · show up2 (up2 σ.1 (a + 2) c l) (a + 3) c k (a + 1) d = _ ∧ up2 (up2 σ.1 (a + 2) c l) (a + 3) c k (a + 2) d = _ ∧ up2 (up2 σ.1 (a + 2) c l) (a + 3) c k (a + 3) d = _
    obtain ⟨e1, e2, e3⟩ := hS.2 d hd
    rw [pu_0, pu_1, pu_2, up2_ne (by omega), up2_ne (by omega), up2_ne (by omega)]
    by_cases q : d = c
    · subst q
      rw [up2_at, up2_at, if_pos rfl, if_pos rfl]
      exact ⟨e1, rfl, rfl⟩
    · rw [up2_ne (by omega), up2_ne (by omega), up2_ne (by omega), if_neg q, if_neg q]
      exact ⟨e1, e2, e3⟩
  · exact eqr_tr (eqr_up (by omega)) (eqr_up (σ := (up2 σ.1 (a + 2) c l, σ.2)) (by omega))
theorem ks_putDown {T : TW} {S : SK} {σ : MM} {a c : Nat} (h6 : T.1 2 ≤ 6) (h : ob a 4) (hS : CSk T a S σ) (hc : c < T.1 2) : ∃ τ, FX4_putDown a (nI c) σ = some ((), τ) ∧ CSk T a (dnS S c) τ ∧ eqr (fun b _ => b = a + 2 ∨ b = a + 3) σ τ := by
  obtain ⟨τ, e, h1⟩ := ks_putUp (l := -1) (k := 0) h6 h hS hc
  exact ⟨τ, e, h1⟩
theorem ks_soak {T : TW} {S : SK} {σ : MM} {a c : Nat} (hT : CTn T σ) (h : ob a 4) (hS : CSk T a S σ) (hc : c < T.1 2) : ∃ τ, FX4_soak a (nI c) σ = some ((), τ) ∧ CSk T a (soS T S c) τ ∧ eqr (fun b _ => b = a + 1) σ τ := by
  have h6 := hT.1.2.2.2.2.2
  refine ⟨(up2 σ.1 (a + 1) c (T.2 4 c), σ.2), ?_, ⟨?_, fun d hd => ?_⟩, eqr_up rfl⟩
  · unfold FX4_soak
    rw [sk0 h, sk1 h, r3_7, ev_bd (ev_aI (by omega) (by decide)), ev_bd (ev_uI (by omega) (by decide)), (hT.2.2.2.1 c hc).2]
    rfl
  · show up2 σ.1 (a + 1) c _ a 5 = up2 S 0 c _ 3 0
    rw [up2_ne (by omega), up2_ne (by omega)]
    exact hS.1
  · show up2 σ.1 (a + 1) c _ (a + 1) d = up2 S 0 c _ 0 d ∧ up2 σ.1 (a + 1) c _ (a + 2) d = up2 S 0 c _ 1 d ∧ up2 σ.1 (a + 1) c _ (a + 3) d = up2 S 0 c _ 2 d
    obtain ⟨e1, e2, e3⟩ := hS.2 d hd
    rw [up2_ne (b := a + 2) (by omega), up2_ne (b := a + 3) (by omega), up2_ne (b := 1) (by omega), up2_ne (b := 2) (by omega)]
    by_cases q : d = c
    · subst q
      rw [up2_at, up2_at]
      exact ⟨rfl, e2, e3⟩
    · rw [up2_ne (by omega), up2_ne (by omega)]
      exact ⟨e1, e2, e3⟩
theorem ks_copy {T : TW} {S : SK} {σ : MM} {a b : Nat} (h6 : T.1 2 ≤ 6) (ha : ob a 4) (hb : ob b 4) (hd : a + 5 ≤ b ∨ b + 5 ≤ a) (hS : CSk T b S σ) : ∃ τ, FX4_copyFrom a b σ = some ((), τ) ∧ CSk T a S τ ∧ eqr (fun r j => (r = a ∧ j = 5) ∨ r = a + 1 ∨ r = a + 2 ∨ r = a + 3) σ τ := by
  refine ⟨(up2 (cpf (cpf (cpf σ.1 (b + 1) (a + 1) 6) (b + 2) (a + 2) 6) (b + 3) (a + 3) 6) a 5 (σ.1 b 5), σ.2), ?_, ⟨?_, fun c hc => ?_⟩, fun r j hr => ?_, rfl⟩
  · unfold FX4_copyFrom
    rw [sk1 ha, sk2 ha, sk3 ha, sk1 hb, sk2 hb, sk3 hb]
    simp only [bd, cpI, gI, sI, pu]
    have : cpf (cpf (cpf σ.1 (b + 1) (a + 1) 6) (b + 2) (a + 2) 6) (b + 3) (a + 3) 6 b 5 = σ.1 b 5 := by
      unfold cpf
      rw [if_neg (by omega), if_neg (by omega), if_neg (by omega)]
    rw [this]
  · show up2 _ a 5 _ a 5 = _
    rw [up2_at]
    exact hS.1
  · obtain ⟨e1, e2, e3⟩ := hS.2 c hc
    show up2 _ a 5 _ (a + 1) c = _ ∧ up2 _ a 5 _ (a + 2) c = _ ∧ up2 _ a 5 _ (a + 3) c = _
    rw [up2_ne (by omega), up2_ne (by omega), up2_ne (by omega)]
    have k1 : cpf (cpf (cpf σ.1 (b + 1) (a + 1) 6) (b + 2) (a + 2) 6) (b + 3) (a + 3) 6 (a + 1) c = σ.1 (b + 1) c := by
      unfold cpf
      rw [if_neg (by omega), if_neg (by omega), if_pos ⟨rfl, by omega⟩]
    have k2 : cpf (cpf (cpf σ.1 (b + 1) (a + 1) 6) (b + 2) (a + 2) 6) (b + 3) (a + 3) 6 (a + 2) c = σ.1 (b + 2) c := by
      unfold cpf
      rw [if_neg (by omega), if_pos ⟨rfl, by omega⟩, if_neg (by omega)]
    have k3 : cpf (cpf (cpf σ.1 (b + 1) (a + 1) 6) (b + 2) (a + 2) 6) (b + 3) (a + 3) 6 (a + 3) c = σ.1 (b + 3) c := by
      unfold cpf
      rw [if_pos ⟨rfl, by omega⟩, if_neg (by omega), if_neg (by omega)]
    rw [k1, k2, k3]
    exact ⟨e1, e2, e3⟩
  · show up2 _ a 5 _ r j = σ.1 r j
    rw [up2_ne (by omega)]
    unfold cpf
    rw [if_neg (by omega), if_neg (by omega), if_neg (by omega)]
theorem ks_begin {T : TW} {σ : MM} {a : Nat} (hT : CTn T σ) (h : ob a 4) : wp (FX4_begin a) σ (fun _ τ => CSk T a (beS T) τ ∧ eqr (fun r j => (r = a ∧ j = 5) ∨ r = a + 1 ∨ r = a + 2 ∨ r = a + 3) σ τ) := by
  obtain ⟨ha1, ha2⟩ := sky_ge a h.1 h.2
  have h6 := hT.1.2.2.2.2.2
  unfold FX4_begin
  rw [sk0 h, sk1 h, sk2 h, sk3 h, r3_7]
  refine ws_it (fun k s τ => s = nI k ∧ eqr (fun r j => r = a + 1 ∨ r = a + 2 ∨ r = a + 3) σ τ ∧ ∀ c, c < k → τ.1 (a + 1) c = σ.1 11 c ∧ τ.1 (a + 2) c = -1 ∧ τ.1 (a + 3) c = 0) 6 (by decide) ⟨rfl, eqr_rf, fun c hc => by omega⟩ ?_
  rintro k s τ hk ⟨rfl, hq, hw⟩
  by_cases hkn : k < 6
  · rw [if_neg (show ¬ (6 : Int32) ≤ nI k from nle_n hkn (by decide))]
    refine ws_a hkn (by decide) (hq.1 11 k (by omega)) ?_
    refine ws_u hkn (by decide) (ws_u hkn (by decide) (ws_u hkn (by decide) ?_))
    rw [lt_eq]
    refine wp_pu (Or.inl ⟨_, rfl, hkn, by rw [nI_1], ?_, fun c hc => ?_⟩)
    · exact eqr_tr hq (eqr_tr (eqr_up (by omega)) (eqr_tr (eqr_up (σ := (up2 τ.1 (a + 1) k (σ.1 11 k), τ.2)) (by omega)) (eqr_up (σ := (up2 (up2 τ.1 (a + 1) k (σ.1 11 k)) (a + 2) k (-1), τ.2)) (by omega))))
    · by_cases q : c = k
      · subst q
        simp [up2]
      · have := hw c (by omega)
        simp [up2, q]
        exact this
  · have : k = 6 := by omega
    subst this
    rw [if_pos (show (6 : Int32) ≤ nI 6 by decide)]
    refine wp_pu (Or.inr ⟨_, rfl, ws_s (wp_pu ⟨⟨?_, fun c hc => ?_⟩, eqr_tr (eqr_mono hq (fun b j q => by omega)) (eqr_up (by omega))⟩)⟩)
    · show up2 τ.1 a 5 0 a 5 = 0
      rw [up2_at]
    · show up2 τ.1 a 5 0 (a + 1) c = _ ∧ up2 τ.1 a 5 0 (a + 2) c = _ ∧ up2 τ.1 a 5 0 (a + 3) c = _
      rw [up2_ne (by omega), up2_ne (by omega), up2_ne (by omega)]
      obtain ⟨k1, k2, k3⟩ := hw c (by omega)
      exact ⟨k1.trans (hT.2.2.2.1 c hc).2, k2, k3⟩
/-! the model's -/
theorem ms_hangs {T : TW} {S : SK} {σ : MM} {b c : Nat} {l k : Int32} (h6 : T.1 2 ≤ 6) (hb : okB b) (hS : MSk T b S σ) (hc : c < T.1 2) : ∃ τ, FX12_hangs 249 (nI b) (nI c) l k σ = some ((), τ) ∧ MSk T b (puS S c l k) τ ∧ eqr (fun r j => r = 265 ∧ (j = b + 7 + c ∨ j = b + 13 + c)) σ τ := by
  have hb' : b + 42 ≤ 966 := hb
  have i1 : nI b + (7 : Int32) + nI c = nI (b + 7 + c) := ixS b 7 c
  have i2 : nI b + (13 : Int32) + nI c = nI (b + 13 + c) := ixS b 13 c
  refine ⟨(up2 (up2 σ.1 265 (b + 7 + c) l) 265 (b + 13 + c) k, σ.2), ?_, ⟨?_, fun d hd => ?_⟩, ?_⟩
  · unfold FX12_hangs
    rw [r249_23, i1, i2, ev_bd (ev_uI (by omega) (by decide)), ev_bd (ev_uI (by omega) (by decide))]
    rfl
  · show up2 (up2 σ.1 265 (b + 7 + c) l) 265 (b + 13 + c) k 265 b = _
    rw [up2_ne (by omega), up2_ne (by omega), pu_3]
    exact hS.1
  · show up2 (up2 σ.1 265 (b + 7 + c) l) 265 (b + 13 + c) k 265 (b + 1 + d) = _ ∧ up2 (up2 σ.1 265 (b + 7 + c) l) 265 (b + 13 + c) k 265 (b + 7 + d) = _ ∧ up2 (up2 σ.1 265 (b + 7 + c) l) 265 (b + 13 + c) k 265 (b + 13 + d) = _
    obtain ⟨e1, e2, e3⟩ := hS.2 d hd
    rw [pu_0, pu_1, pu_2, up2_ne (i := b + 1 + d) (by omega), up2_ne (i := b + 1 + d) (by omega), up2_ne (i := b + 7 + d) (j := b + 13 + c) (by omega)]
    by_cases q : d = c
    · subst q
      rw [up2_at, up2_at, if_pos rfl, if_pos rfl]
      exact ⟨e1, rfl, rfl⟩
    · rw [up2_ne (by omega), up2_ne (by omega), up2_ne (by omega), if_neg q, if_neg q]
      exact ⟨e1, e2, e3⟩
  · exact eqr_tr (eqr_up (by omega)) (eqr_up (σ := (up2 σ.1 265 (b + 7 + c) l, σ.2)) (by omega))
theorem ms_comesDown {T : TW} {S : SK} {σ : MM} {b c : Nat} (h6 : T.1 2 ≤ 6) (hb : okB b) (hS : MSk T b S σ) (hc : c < T.1 2) : ∃ τ, FX12_comesDown 249 (nI b) (nI c) σ = some ((), τ) ∧ MSk T b (dnS S c) τ ∧ eqr (fun r j => r = 265 ∧ (j = b + 7 + c ∨ j = b + 13 + c)) σ τ := by
  obtain ⟨τ, e, h1⟩ := ms_hangs (l := -1) (k := 0) h6 hb hS hc
  exact ⟨τ, e, h1⟩
/-- soaking, at the model's place for it -/
theorem ms_soak {T : TW} {S : SK} {σ : MM} {b c : Nat} (h6 : T.1 2 ≤ 6) (hS : MSk T b S σ) (hc : c < T.1 2) : MSk T b (soS T S c) (up2 σ.1 265 (b + 1 + c) (T.2 4 c), σ.2) := by
  refine ⟨?_, fun d hd => ?_⟩
  · show up2 σ.1 265 _ _ 265 b = up2 S 0 c _ 3 0
    rw [up2_ne (by omega), up2_ne (by omega)]
    exact hS.1
  · show up2 σ.1 265 _ _ 265 (b + 1 + d) = up2 S 0 c _ 0 d ∧ up2 σ.1 265 _ _ 265 (b + 7 + d) = up2 S 0 c _ 1 d ∧ up2 σ.1 265 _ _ 265 (b + 13 + d) = up2 S 0 c _ 2 d
    obtain ⟨e1, e2, e3⟩ := hS.2 d hd
    rw [up2_ne (i := b + 7 + d) (by omega), up2_ne (i := b + 13 + d) (by omega), up2_ne (b := 1) (by omega), up2_ne (b := 2) (by omega)]
    by_cases q : d = c
    · subst q
      rw [up2_at, up2_at]
      exact ⟨rfl, e2, e3⟩
    · rw [up2_ne (by omega), up2_ne (by omega)]
      exact ⟨e1, e2, e3⟩
theorem ms_copies {σ : MM} {f t n : Nat} (hf : f + n ≤ 966) (ht : t + n ≤ 966) (hd : f + n ≤ t ∨ t + n ≤ f) : wp (FX12_copies 249 (nI f) (nI t) (nI n)) σ (fun _ τ => eqr (fun r j => r = 265 ∧ t ≤ j ∧ j < t + n) σ τ ∧ ∀ k, k < n → τ.1 265 (t + k) = σ.1 265 (f + k)) := by
  unfold FX12_copies
  rw [r249_23]
  refine ws_it (fun k s τ => s = nI k ∧ eqr (fun r j => r = 265 ∧ t ≤ j ∧ j < t + n) σ τ ∧ ∀ c, c < k → τ.1 265 (t + c) = σ.1 265 (f + c)) n (by omega) ⟨rfl, eqr_rf, fun c hc => by omega⟩ ?_
  rintro k s τ hk ⟨rfl, hq, hw⟩
  by_cases hkn : k < n
  · rw [if_neg (nle_n hkn (by omega)), nI_add, nI_add]
    refine ws_a (by omega) (by decide) (hq.1 265 (f + k) (by omega)) ?_
    refine ws_u (by omega) (by decide) ?_
    rw [lt_eq]
    refine wp_pu (Or.inl ⟨_, rfl, hkn, by rw [nI_1], eqr_tr hq (eqr_up (by omega)), fun c hc => ?_⟩)
    show up2 τ.1 265 (t + k) _ 265 (t + c) = _
    by_cases q : c = k
    · subst q
      rw [up2_at]
    · rw [up2_ne (by omega)]
      exact hw c (by omega)
  · have : k = n := by omega
    subst this
    rw [if_pos (le_nn (by omega))]
    exact wp_pu (Or.inr ⟨_, rfl, wp_pu ⟨hq, hw⟩⟩)
/-- a sky copied -/
theorem ms_copyS {T : TW} {S : SK} {σ : MM} {f t : Nat} (h6 : T.1 2 ≤ 6) (hf : f + 19 ≤ 966) (ht : t + 19 ≤ 966) (hd : f + 19 ≤ t ∨ t + 19 ≤ f) (hS : MSk T f S σ) : wp (FX12_copies 249 (nI f) (nI t) (19 : Int32)) σ (fun _ τ => MSk T t S τ ∧ eqr (fun r j => r = 265 ∧ t ≤ j ∧ j < t + 19) σ τ) := by
  refine wp_mono (ms_copies (n := 19) hf ht hd) (fun _ τ q => ⟨⟨?_, fun c hc => ?_⟩, q.1⟩)
  · have := q.2 0 (by decide)
    exact this.trans hS.1
  · obtain ⟨e1, e2, e3⟩ := hS.2 c hc
    have k1 := q.2 (1 + c) (by omega)
    have k2 := q.2 (7 + c) (by omega)
    have k3 := q.2 (13 + c) (by omega)
    rw [← Nat.add_assoc, ← Nat.add_assoc] at k1 k2 k3
    exact ⟨k1.trans e1, k2.trans e2, k3.trans e3⟩
