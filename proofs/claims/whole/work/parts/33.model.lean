/-! ===== the model's weather; wind ===== -/
def abm (ab o : Int32) : Bool := decide (¬ o < 0) && decide ((ab >>> (o &&& 31)) &&& 1 = 1)
theorem m_isAbove {σ : MM} {b p k : Nat} (hb : okB b) (hp : p < 4) (hk : k < 6) : FX12_isAbove 249 (nI b) (nI p) (nI k) σ = some (abm (σ.1 255 (14 + p)) (σ.1 265 (b + 7 + k)), σ) := by
  have e1 := m_doesHang (σ := σ) hb hk
  unfold okB at hb
  unfold FX12_isAbove
  have i1 : nI b + (7 : Int32) + nI k = nI (b + 7 + k) := ixS b 7 k
  have i2 : (14 : Int32) + nI p = nI (14 + p) := nI_add 14 p
  have e2 := ev_aI (a := 265) (n := 966) (σ := σ) (show b + 7 + k < 966 by omega) (by decide)
  have e3 := ev_aI (a := 255) (n := 80) (σ := σ) (show 14 + p < 80 by omega) (by decide)
  rw [r249_23, r249_10]
  by_cases q1 : σ.1 265 (b + 7 + k) < 0 <;> by_cases q2 : (σ.1 255 (14 + p) >>> (σ.1 265 (b + 7 + k) &&& 31)) &&& 1 = 1 <;> simp [bd, e1, i1, i2, e2, e3, q1, q2, pu, zb, b2i, abm]
def kdm (σ : MM) (b p kind : Nat) (k : Nat) : Bool := abm (σ.1 255 (14 + p)) (σ.1 265 (b + 7 + k)) && (decide (¬ σ.1 265 (b + 1 + k) ≤ 0) && decide (σ.1 255 (18 + 2 * k) = nI kind))
theorem m_howMany {σ : MM} {nl np nc b p kind : Nat} (hT : TM σ nl np nc) (hb : okB b) (hp : p < 4) : FX12_howMany 249 (nI b) (nI p) (nI kind) σ = some (hmF (kdm σ b p kind) nc, σ) := by
  have hc := m_cloths hT
  obtain ⟨-, -, h3, -, -, h6⟩ := hT
  unfold FX12_howMany
  refine (bd_it (fun k => (hmF (kdm σ b p kind) k, nI k)) nc rfl ?_ ?_ (by omega)).trans rfl
  · intro k hk
    have e1 := m_isAbove (σ := σ) hb hp (show k < 6 by omega)
    have e2 := m_isWet (σ := σ) hb (show k < 6 by omega)
    have e3 : FX12_clothOf 249 (nI k) (0 : Int32) σ = some (σ.1 255 (18 + 2 * k), σ) := m_clothOf (w := 0) (by omega) (by decide)
    have z : ∀ x : Int32, x + 0 = x := fun x => by simp
    by_cases q1 : abm (σ.1 255 (14 + p)) (σ.1 265 (b + 7 + k)) = true
    · by_cases q2 : σ.1 265 (b + 1 + k) ≤ 0
      · simp [bd, hc, nle_n hk (by omega), e1, e2, q1, q2, hmF, kdm, lt, pu, nI_1, b2i]
      · by_cases q3 : σ.1 255 (18 + 2 * k) = nI kind <;> simp [bd, hc, nle_n hk (by omega), e1, e2, e3, q1, q2, q3, hmF, kdm, lt, pu, nI_1, b2i]
    · simp [bd, hc, nle_n hk (by omega), e1, q1, hmF, kdm, lt, pu, nI_1, b2i]
  · simp [bd, hc, le_nn (show nc < 2 ^ 31 by omega), pu]
def wem (σ : MM) (b p nc : Nat) : Int32 := (wst (fun j => hmF (kdm σ b p j) nc) 4).1
theorem m_weatherOf {σ : MM} {nl np nc b p : Nat} (hT : TM σ nl np nc) (hb : okB b) (hp : p < 4) : FX12_weatherOf 249 (nI b) (nI p) σ = some (wem σ b p nc, σ) := by
  unfold FX12_weatherOf
  refine (bd_it (fun i => ((wst (fun j => hmF (kdm σ b p j) nc) i).1, (wst (fun j => hmF (kdm σ b p j) nc) i).2, nI i)) 4 rfl ?_ ?_ (by decide)).trans rfl
  · intro i hi
    have e3 : ¬ (4 : Int32) ≤ nI i := nle_n hi (by decide)
    have e1 : (bd (if nI i = 0 then pu (2 : Int32) else if nI i = (1 : Int32) then pu (3 : Int32) else if nI i = (2 : Int32) then pu (0 : Int32) else pu (1 : Int32) : PP (Int32)) (fun v => FX12_howMany 249 (nI b) (nI p) v)) σ = some (hmF (kdm σ b p (rk i)) nc, σ) ∧ (if nI i = 0 then pu (2 : Int32) else if nI i = (1 : Int32) then pu (3 : Int32) else if nI i = (2 : Int32) then pu (0 : Int32) else pu (1 : Int32) : PP (Int32)) = pu (nI (rk i)) := by
      have h2 : (if nI i = 0 then pu (2 : Int32) else if nI i = (1 : Int32) then pu (3 : Int32) else if nI i = (2 : Int32) then pu (0 : Int32) else pu (1 : Int32) : PP (Int32)) = pu (nI (rk i)) := by
        rcases (show i = 0 ∨ i = 1 ∨ i = 2 ∨ i = 3 by omega) with rfl | rfl | rfl | rfl <;> rfl
      rw [h2]
      exact ⟨m_howMany hT hb hp, rfl⟩
    have e2 := m_howMany (kind := rk i) hT hb hp
    simp only [e1.2, e3, if_false]
    by_cases q : hmF (kdm σ b p (rk i)) nc ≤ (wst (fun j => hmF (kdm σ b p j) nc) i).2 <;> simp [bd, e2, q, wst, lt, pu, nI_1]
  · have e3 : (4 : Int32) ≤ nI 4 := by decide
    simp [e3, pu]
    rfl
theorem m_isThunder {σ : MM} {nl np nc b : Nat} (hT : TM σ nl np nc) (hb : okB b) : ∃ r, FX12_isThunder 249 (nI b) σ = some (r, σ) ∧ (r = true ↔ ∃ p, p < np ∧ wem σ b p nc = 2) := by
  have hc := m_places hT
  have hnp := hT.2.2.2.2.1
  unfold FX12_isThunder
  have hf : ∀ k, ∃ z : Int32, (z = 0 ∨ z = 1) ∧ (z = 1 ↔ ∃ p, p < k ∧ wem σ b p nc = 2) := by
    intro k
    by_cases h : ∃ p, p < k ∧ wem σ b p nc = 2
    · exact ⟨1, Or.inr rfl, by simp [h]⟩
    · exact ⟨0, Or.inl rfl, by simp only [h, iff_false]; decide⟩
  obtain ⟨f, hf⟩ := Classical.axiomOfChoice hf
  have h0 : (0 : Int32) = f 0 := by
    rcases (hf 0).1 with q | q
    · exact q.symm
    · obtain ⟨p, hp, -⟩ := (hf 0).2.mp q
      omega
  refine ⟨decide (f np = 1), (bd_it (r := f np) (fun k => (f k, nI k)) np (by rw [← h0]; rfl) ?_ ?_ (by omega)).trans ?_, by rw [decide_eq_true_eq]; exact (hf np).2⟩
  · intro k hk
    have e1 := m_weatherOf (p := k) hT hb (by omega)
    have hn : f (k + 1) = if f k = 0 then (if wem σ b k nc = 2 then 1 else 0) else 1 := by
      rcases (hf (k + 1)).1 with q | q
      · have h1 : ¬ f k = 1 := fun z => by
          obtain ⟨p, hp, hw⟩ := (hf k).2.mp z
          have := (hf (k + 1)).2.mpr ⟨p, by omega, hw⟩
          rw [q] at this
          exact absurd this (by decide)
        have h2 : f k = 0 := by rcases (hf k).1 with z | z; exact z; exact absurd z h1
        have h3 : ¬ wem σ b k nc = 2 := fun z => by
          have := (hf (k + 1)).2.mpr ⟨k, by omega, z⟩
          rw [q] at this
          exact absurd this (by decide)
        simp [q, h2, h3]
      · by_cases h2 : f k = 0
        · obtain ⟨p, hp, hw⟩ := (hf (k + 1)).2.mp q
          by_cases hpk : p = k
          · subst hpk; simp [q, h2, hw]
          · have := (hf k).2.mpr ⟨p, by omega, hw⟩
            rw [h2] at this
            exact absurd this (by decide)
        · simp [q, h2]
    by_cases q1 : f k = 0
    · by_cases q2 : wem σ b k nc = 2 <;> simp [bd, hc, nle_n hk (by omega), e1, q1, q2, lt, pu, nI_1, hn]
    · simp [bd, hc, nle_n hk (by omega), q1, lt, pu, nI_1, hn]
  · simp [bd, hc, le_nn (show np < 2 ^ 31 by omega), pu]
  · rcases (hf np).1 with q | q <;> simp [zb, q]
def wdF (f : Nat → Int32) (p : Nat → Bool) : Nat → Int32
  | 0 => 0
  | k + 1 => wdF f p k + (if p k = true then 3 - f k else 0)
theorem wdF_cong {f g : Nat → Int32} {p q : Nat → Bool} : ∀ {n : Nat}, (∀ k, k < n → f k = g k ∧ p k = q k) → wdF f p n = wdF g q n
  | 0, _ => rfl
  | n + 1, h => by
    show wdF f p n + _ = wdF g q n + _
    rw [wdF_cong (fun k hk => h k (by omega)), (h n (by omega)).1, (h n (by omega)).2]
theorem c_wind {σ : MM} {nl np nc a p : Nat} (hT : TC σ nl np nc) (h : ob a 4) (hp : p < 4) : FX4_wind a (nI p) σ = some (wdF (σ.1 (a + 3)) (fun k => abv (σ.1 9 p) (σ.1 (a + 2) k)) nc, σ) := by
  obtain ⟨-, -, h3, -, -, h6⟩ := hT
  unfold FX4_wind
  rw [sk0 h, sk2 h, sk3 h, r3_5, ev_bd (ev_aI hp (by decide))]
  refine (bd_it (fun k => (wdF (σ.1 (a + 3)) (fun k => abv (σ.1 9 p) (σ.1 (a + 2) k)) k, nI k)) nc rfl ?_ ?_ (by omega)).trans rfl
  · intro k hk
    have e1 := ev_aI (a := a + 2) (σ := σ) (show k < 6 by omega) (by decide)
    have e2 := ev_aI (a := a + 3) (σ := σ) (show k < 6 by omega) (by decide)
    by_cases q1 : σ.1 (a + 2) k = -1
    · simp [bd, gI, h3, nle_n hk (by omega), e1, q1, wdF, abv, lt, pu, nI_1]
    · by_cases q2 : (σ.1 9 p >>> (σ.1 (a + 2) k &&& 31)) &&& 1 = 1 <;> simp [bd, gI, h3, nle_n hk (by omega), e1, e2, q1, q2, wdF, abv, lt, pu, nI_1]
  · simp [bd, gI, h3, le_nn (show nc < 2 ^ 31 by omega), pu]
theorem m_windOf {σ : MM} {nl np nc p : Nat} (hT : TM σ nl np nc) (hp : p < 4) : FX12_windOf 249 (nI p) σ = some (wdF (fun k => σ.1 265 (13 + k)) (fun k => abm (σ.1 255 (14 + p)) (σ.1 265 (7 + k))) nc, σ) := by
  have hc := m_cloths hT
  obtain ⟨-, -, h3, -, -, h6⟩ := hT
  unfold FX12_windOf
  rw [r249_23]
  refine (bd_it (fun k => (wdF (fun k => σ.1 265 (13 + k)) (fun k => abm (σ.1 255 (14 + p)) (σ.1 265 (7 + k))) k, nI k)) nc rfl ?_ ?_ (by omega)).trans rfl
  · intro k hk
    have e1 : FX12_isAbove 249 (0 : Int32) (nI p) (nI k) σ = some (abm (σ.1 255 (14 + p)) (σ.1 265 (7 + k)), σ) := by
      have := m_isAbove (σ := σ) (b := 0) (p := p) (k := k) (by unfold okB; omega) hp (by omega)
      rw [show 0 + 7 + k = 7 + k by omega] at this
      exact this
    have i2 : (13 : Int32) + nI k = nI (13 + k) := nI_add 13 k
    have e2 := ev_aI (a := 265) (n := 966) (σ := σ) (show 13 + k < 966 by omega) (by decide)
    by_cases q1 : abm (σ.1 255 (14 + p)) (σ.1 265 (7 + k)) = true <;> simp [bd, hc, nle_n hk (by omega), e1, e2, i2, q1, wdF, lt, pu, nI_1, b2i]
  · simp [bd, hc, le_nn (show nc < 2 ^ 31 by omega), pu]
/-! ===== the two of them ===== -/
theorem zshr : ∀ k, k < 6 → ((0 : Int32) >>> (nI k &&& 31)) &&& 1 = 0 := by decide +kernel
/-- a sky of the class and a block of the model's state -/
def SkyR (σ : MM) (a b nl nc : Nat) : Prop := σ.1 a 5 = σ.1 265 b ∧ ∀ c, c < nc → σ.1 (a + 1) c = σ.1 265 (b + 1 + c) ∧ σ.1 (a + 2) c = σ.1 265 (b + 7 + c) ∧ σ.1 (a + 3) c = σ.1 265 (b + 13 + c) ∧ (∃ w, w ≤ 20 ∧ σ.1 (a + 1) c = nI w) ∧ (σ.1 (a + 2) c = -1 ∨ ∃ l, l < nl ∧ σ.1 (a + 2) c = nI l) ∧ (∃ k, k ≤ 3 ∧ σ.1 (a + 3) c = nI k)
def TwR (σ : MM) (nl np nc : Nat) : Prop := (∀ l, l < nl → σ.1 7 l = σ.1 255 (4 + 2 * l) ∧ σ.1 8 l = σ.1 255 (5 + 2 * l)) ∧ (∀ p, p < np → σ.1 9 p = σ.1 255 (14 + p)) ∧ ∀ c, c < nc → σ.1 10 c = σ.1 255 (18 + 2 * c) ∧ σ.1 11 c = σ.1 255 (19 + 2 * c)
theorem hang_iff {o : Int32} {nl : Nat} (h5 : nl ≤ 5) (h : o = -1 ∨ ∃ l, l < nl ∧ o = nI l) : (¬ o = -1) ↔ (¬ o < 0) := by
  rcases h with rfl | ⟨l, hl, rfl⟩
  · decide
  · have h1 : ¬ nI l < 0 := nI_pos (by omega)
    have h2 : ¬ nI l = -1 := fun e => h1 (by rw [e]; decide)
    simp [h1, h2]
theorem abv_abm {ab o : Int32} {nl : Nat} (h5 : nl ≤ 5) (h : o = -1 ∨ ∃ l, l < nl ∧ o = nI l) : abv ab o = abm ab o := by
  unfold abv abm
  congr 1
  exact decide_eq_decide.mpr (hang_iff h5 h)
theorem we_eq {σ : MM} {a b nl np nc p : Nat} (h5 : nl ≤ 5) (h6 : nc ≤ 6) (hS : SkyR σ a b nl nc) (hT : TwR σ nl np nc) (hp : p < np) : wec σ a p nc = wem σ b p nc := by
  unfold wec wem wxc
  rw [wst_cong (g := fun j => hmF (kdm σ b p j) nc) (fun j hj => hmF_cong (fun c hc => ?_)) (Nat.le_refl 4)]
  obtain ⟨e1, e2, e3, -, e5, -⟩ := hS.2 c hc
  unfold kdc kdm wtw
  rw [abv_abm h5 e5, e1, e2, hT.2.1 p hp, (hT.2.2 c hc).1, zshr c (by omega)]
  simp
