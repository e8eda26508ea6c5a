/-! ===== stepping through terms ===== -/
theorem ws_g {β : Type} {a j : Nat} {k : Int32 → PP β} {σ : MM} {P : β → MM → Prop} (h : wp (k (σ.1 a j)) σ P) : wp (bd (gI a j) k) σ P := wp_eq (show gI a j σ = some (σ.1 a j, σ) from rfl) h
theorem ws_gv {β : Type} {a j : Nat} {x : Int32} {k : Int32 → PP β} {σ : MM} {P : β → MM → Prop} (e : σ.1 a j = x) (h : wp (k x) σ P) : wp (bd (gI a j) k) σ P := ws_g (by rw [e]; exact h)
theorem ws_s {β : Type} {a j : Nat} {x : Int32} {k : Unit → PP β} {σ : MM} {P : β → MM → Prop} (h : wp (k ()) (up2 σ.1 a j x, σ.2) P) : wp (bd (sI a j x) k) σ P := wp_eq (show sI a j x σ = some ((), (up2 σ.1 a j x, σ.2)) from rfl) h
theorem ws_a {β : Type} {a n i : Nat} {x : Int32} {k : Int32 → PP β} {σ : MM} {P : β → MM → Prop} (hi : i < n) (hn : n < 2 ^ 31) (e : σ.1 a i = x) (h : wp (k x) σ P) : wp (bd (aI a n (nI i)) k) σ P := wp_eq (ev_aI hi hn) (by rw [e]; exact h)
theorem ws_u {β : Type} {a n i : Nat} {x : Int32} {k : Unit → PP β} {σ : MM} {P : β → MM → Prop} (hi : i < n) (hn : n < 2 ^ 31) (h : wp (k ()) (up2 σ.1 a i x, σ.2) P) : wp (bd (uI a n (nI i) x) k) σ P := wp_eq (ev_uI hi hn) h
theorem ws_z {b : Bool} {σ : MM} {P : Bool → MM → Prop} (h : P b σ) : wp (zb (b2i b)) σ P := ⟨b, σ, by cases b <;> rfl, h⟩
theorem ws_z0 {σ : MM} {P : Bool → MM → Prop} (h : P false σ) : wp (zb (0 : Int32)) σ P := ⟨false, σ, rfl, h⟩
theorem ws_z1 {σ : MM} {P : Bool → MM → Prop} (h : P true σ) : wp (zb (1 : Int32)) σ P := ⟨true, σ, rfl, h⟩
theorem ws_it {α β γ : Type} {body : α → PP (α ⊕ β)} {kk : β → PP γ} {P : γ → MM → Prop} (J : Nat → α → MM → Prop) (m : Nat) (hm : m < 10000) {a : α} {σ : MM} (h0 : J 0 a σ) (h : ∀ k a τ, k ≤ m → J k a τ → wp (body a) τ (fun r υ => (∃ a', r = .inl a' ∧ k < m ∧ J (k + 1) a' υ) ∨ (∃ b, r = .inr b ∧ wp (kk b) υ P))) : wp (bd (it body FU a) kk) σ P := by
  refine wp_it J m hm ?_ h0
  intro k a τ hk hJ
  obtain ⟨r, υ, e, q⟩ := h k a τ hk hJ
  rcases q with ⟨a', rfl, hlt, hJ'⟩ | ⟨b, rfl, hb⟩
  · exact Or.inl ⟨a', υ, e, hlt, hJ'⟩
  · exact Or.inr ⟨b, υ, e, hb⟩
theorem b2i0 {b : Bool} : (b2i b = 0) = (b = false) := by cases b <;> simp [b2i]
theorem b2i1 {b : Bool} : (b2i b = 1) = (b = true) := by cases b <;> simp [b2i]
/-! ===== memories alike but for some slots ===== -/
def eqr (R : Nat → Nat → Prop) (σ τ : MM) : Prop := (∀ b j, ¬ R b j → τ.1 b j = σ.1 b j) ∧ τ.2 = σ.2
theorem eqr_rf {R : Nat → Nat → Prop} {σ : MM} : eqr R σ σ := ⟨fun _ _ _ => rfl, rfl⟩
theorem eqr_tr {R : Nat → Nat → Prop} {σ τ υ : MM} (h1 : eqr R σ τ) (h2 : eqr R τ υ) : eqr R σ υ := ⟨fun b j hb => (h2.1 b j hb).trans (h1.1 b j hb), h2.2.trans h1.2⟩
theorem eqr_mono {R S : Nat → Nat → Prop} {σ τ : MM} (h : eqr R σ τ) (hRS : ∀ b j, R b j → S b j) : eqr S σ τ := ⟨fun b j hb => h.1 b j (fun q => hb (hRS b j q)), h.2⟩
theorem eqr_x {R : Nat → Prop} {σ τ : MM} (h : eqx R σ τ) : eqr (fun b _ => R b) σ τ := ⟨fun b j hb => by rw [h.1 b hb], h.2⟩
theorem eqr_up {R : Nat → Nat → Prop} {σ : MM} {a j : Nat} {x : Int32} (h : R a j) : eqr R σ (up2 σ.1 a j x, σ.2) := ⟨fun b i hb => by
  have : ¬ (b = a ∧ i = j) := fun q => hb (by rw [q.1, q.2]; exact h)
  simp [up2, this], rfl⟩
theorem up2_ne {f : Nat → Nat → Int32} {a j b i : Nat} {x : Int32} (h : ¬ (b = a ∧ i = j)) : up2 f a j x b i = f b i := by simp [up2, h]
theorem up2_at {f : Nat → Nat → Int32} {a j : Nat} {x : Int32} : up2 f a j x a j = x := by simp [up2]
/-! ===== streets and skies as such ===== -/
/-- how many lines, places, cloths, steps; pegs, crossed, above, kinds, soaked, steps -/
abbrev TW : Type := (Nat → Nat) × (Nat → Nat → Int32)
/-- wet, on, by; the clock at (3, 0) -/
abbrev SK : Type := Nat → Nat → Int32
def CTn (T : TW) (σ : MM) : Prop := TC σ (T.1 0) (T.1 1) (T.1 2) ∧ (∀ l, l < T.1 0 → σ.1 7 l = T.2 0 l ∧ σ.1 8 l = T.2 1 l) ∧ (∀ p, p < T.1 1 → σ.1 9 p = T.2 2 p) ∧ (∀ c, c < T.1 2 → σ.1 10 c = T.2 3 c ∧ σ.1 11 c = T.2 4 c) ∧ (T.1 2 = 0 ∨ σ.1 12 2 = nI (T.1 3)) ∧ ∀ k, k < T.1 3 → (T.1 2 = 0 ∨ σ.1 13 k = T.2 5 k)
def MTn (T : TW) (σ : MM) : Prop := TM σ (T.1 0) (T.1 1) (T.1 2) ∧ (∀ l, l < T.1 0 → σ.1 255 (4 + 2 * l) = T.2 0 l ∧ σ.1 255 (5 + 2 * l) = T.2 1 l) ∧ (∀ p, p < T.1 1 → σ.1 255 (14 + p) = T.2 2 p) ∧ (∀ c, c < T.1 2 → σ.1 255 (18 + 2 * c) = T.2 3 c ∧ σ.1 255 (19 + 2 * c) = T.2 4 c) ∧ ((σ.1 255 3 = -1 ∧ T.1 3 = 3 ∧ T.2 5 0 = 1 ∧ T.2 5 1 = -2 ∧ T.2 5 2 = -10) ∨ (σ.1 255 3 = 0 ∧ LM σ (T.2 5) (T.1 3)))
def VTn (T : TW) : Prop := (T.1 0 ≤ 5 ∧ T.1 1 ≤ 4 ∧ T.1 2 ≤ 6 ∧ T.1 3 ≤ 1000) ∧ WF (T.2 5) (T.1 3) ∧ (∀ c, c < T.1 2 → (∃ k, k < 4 ∧ T.2 3 c = nI k) ∧ ∃ w, 1 ≤ w ∧ w ≤ 20 ∧ T.2 4 c = nI w) ∧ (∀ l, l < T.1 0 → ∃ q, 1 ≤ q ∧ q ≤ 9 ∧ T.2 0 l = nI q)
def CSk (T : TW) (a : Nat) (S : SK) (σ : MM) : Prop := σ.1 a 5 = S 3 0 ∧ ∀ c, c < T.1 2 → σ.1 (a + 1) c = S 0 c ∧ σ.1 (a + 2) c = S 1 c ∧ σ.1 (a + 3) c = S 2 c
def MSk (T : TW) (b : Nat) (S : SK) (σ : MM) : Prop := σ.1 265 b = S 3 0 ∧ ∀ c, c < T.1 2 → σ.1 265 (b + 1 + c) = S 0 c ∧ σ.1 265 (b + 7 + c) = S 1 c ∧ σ.1 265 (b + 13 + c) = S 2 c
def VSk (T : TW) (S : SK) : Prop := ∀ c, c < T.1 2 → (∃ w, w ≤ 20 ∧ S 0 c = nI w) ∧ (S 1 c = -1 ∨ ∃ l, l < T.1 0 ∧ S 1 c = nI l) ∧ (∃ k, k ≤ 3 ∧ S 2 c = nI k)
theorem CTn_r {R : Nat → Nat → Prop} {T : TW} {σ τ : MM} (h : eqr R σ τ) (hR : ∀ b j, 3 ≤ b → b ≤ 13 → ¬ R b j) (hT : CTn T σ) : CTn T τ := by
  have e : ∀ b j, 3 ≤ b → b ≤ 13 → τ.1 b j = σ.1 b j := fun b j h1 h2 => h.1 b j (hR b j h1 h2)
  obtain ⟨h1, h2, h3, h4, h5, h6⟩ := hT
  refine ⟨?_, fun l hl => ?_, fun p hp => ?_, fun c hc => ?_, ?_, fun k hk => ?_⟩
  · unfold TC at h1 ⊢
    rw [e 3 9 (by omega) (by omega), e 3 10 (by omega) (by omega), e 3 11 (by omega) (by omega)]
    exact h1
  · rw [e 7 l (by omega) (by omega), e 8 l (by omega) (by omega)]; exact h2 l hl
  · rw [e 9 p (by omega) (by omega)]; exact h3 p hp
  · rw [e 10 c (by omega) (by omega), e 11 c (by omega) (by omega)]; exact h4 c hc
  · rw [e 12 2 (by omega) (by omega)]; exact h5
  · rw [e 13 k (by omega) (by omega)]; exact h6 k hk
theorem LM_e {σ τ : MM} {st : Nat → Int32} {m : Nat} (e1 : ∀ k, k ≤ m → τ.1 256 k = σ.1 256 k) (e2 : ∀ k, k < m → τ.1 257 k = σ.1 257 k) (h : LM σ st m) : LM τ st m := by
  refine ⟨fun k hk => ?_, ?_⟩
  · rw [e1 k (by omega), e2 k hk]; exact h.1 k hk
  · rw [e1 m (Nat.le_refl m)]; exact h.2
theorem MTn_r {R : Nat → Nat → Prop} {T : TW} {σ τ : MM} (h : eqr R σ τ) (hR : ∀ b j, 255 ≤ b → b ≤ 257 → ¬ R b j) (hT : MTn T σ) : MTn T τ := by
  have e : ∀ b j, 255 ≤ b → b ≤ 257 → τ.1 b j = σ.1 b j := fun b j h1 h2 => h.1 b j (hR b j h1 h2)
  obtain ⟨h1, h2, h3, h4, h5⟩ := hT
  refine ⟨?_, fun l hl => ?_, fun p hp => ?_, fun c hc => ?_, ?_⟩
  · unfold TM at h1 ⊢
    rw [e 255 0 (by omega) (by omega), e 255 1 (by omega) (by omega), e 255 2 (by omega) (by omega)]
    exact h1
  · rw [e 255 _ (by omega) (by omega), e 255 _ (by omega) (by omega)]; exact h2 l hl
  · rw [e 255 _ (by omega) (by omega)]; exact h3 p hp
  · rw [e 255 _ (by omega) (by omega), e 255 _ (by omega) (by omega)]; exact h4 c hc
  · rw [e 255 3 (by omega) (by omega)]
    rcases h5 with q | ⟨q1, q2⟩
    · exact Or.inl q
    · exact Or.inr ⟨q1, LM_e (fun k _ => e 256 k (by omega) (by omega)) (fun k _ => e 257 k (by omega) (by omega)) q2⟩
theorem CSk_r {R : Nat → Nat → Prop} {T : TW} {a : Nat} {S : SK} {σ τ : MM} (h : eqr R σ τ) (hR : ∀ j, ¬ R (a + 1) j ∧ ¬ R (a + 2) j ∧ ¬ R (a + 3) j) (hR2 : ¬ R a 5) (hS : CSk T a S σ) : CSk T a S τ := by
  refine ⟨by rw [h.1 a 5 hR2]; exact hS.1, fun c hc => ?_⟩
  rw [h.1 _ c (hR c).1, h.1 _ c (hR c).2.1, h.1 _ c (hR c).2.2]
  exact hS.2 c hc
theorem MSk_r {R : Nat → Nat → Prop} {T : TW} {b : Nat} {S : SK} {σ τ : MM} (h : eqr R σ τ) (h6 : T.1 2 ≤ 6) (hR : ∀ j, b ≤ j → j < b + 19 → ¬ R 265 j) (hS : MSk T b S σ) : MSk T b S τ := by
  refine ⟨by rw [h.1 265 b (hR b (by omega) (by omega))]; exact hS.1, fun c hc => ?_⟩
  rw [h.1 265 _ (hR (b + 1 + c) (by omega) (by omega)), h.1 265 _ (hR (b + 7 + c) (by omega) (by omega)), h.1 265 _ (hR (b + 13 + c) (by omega) (by omega))]
  exact hS.2 c hc
theorem CTn_TK {T : TW} {σ : MM} (hV : VTn T) (hT : CTn T σ) : TK σ (T.1 2) := by
  intro c hc
  rw [(hT.2.2.2.1 c hc).1]
  exact (hV.2.2.1 c hc).1
/-! what is asked of a sky -/
def frS (T : TW) (S : SK) (l : Nat) : Int32 := fr (T.2 0 l) (S 1) (S 2) (nI l) (T.1 2)
def cnS (T : TW) (S : SK) (p : Nat) (out : Int32) (j : Nat) : Int32 := hmF (kdc (S 0) (S 1) (T.2 3) (T.2 2 p) out j) (T.1 2)
def wxS (T : TW) (S : SK) (p : Nat) (out : Int32) : Int32 × Int32 := wst (cnS T S p out) 4
def weS (T : TW) (S : SK) (p : Nat) : Int32 := (wxS T S p 0).1
def wdS (T : TW) (S : SK) (p : Nat) : Int32 := wdF (S 2) (fun k => abv (T.2 2 p) (S 1 k)) (T.1 2)
def hgS (T : TW) (S : SK) : Int32 := btF (fun k => decide (¬ S 1 k = -1)) (T.1 2)
def wnS (T : TW) (S : SK) : Int32 := btF (fun k => decide (¬ S 0 k ≤ 0)) (T.1 2)
def onS (T : TW) (S : SK) (l : Int32) : Int32 := btF (fun k => decide (S 1 k = l)) (T.1 2)
theorem ks_freeOn {T : TW} {S : SK} {σ : MM} {a l : Nat} (hT : CTn T σ) (h : ob a 4) (hS : CSk T a S σ) (hl : l < T.1 0) : FX4_freeOn a (nI l) σ = some (frS T S l, σ) := by
  have h5 := hT.1.2.2.2.1
  rw [c_freeOn hT.1 h (by omega), (hT.2.1 l hl).1]
  rw [fr_cong (on2 := S 1) (pb2 := S 2) (fun c hc => ⟨(hS.2 c hc).2.1, (hS.2 c hc).2.2⟩)]
  rfl
theorem ks_hanging {T : TW} {S : SK} {σ : MM} {a : Nat} (hT : CTn T σ) (h : ob a 4) (hS : CSk T a S σ) : FX4_hanging a σ = some (hgS T S, σ) := by
  rw [c_hanging hT.1 h]
  rw [btF_cong (q := fun k => decide (¬ S 1 k = -1)) (fun c hc => by rw [(hS.2 c hc).2.1])]
  rfl
theorem ks_wetOnes {T : TW} {S : SK} {σ : MM} {a : Nat} (hT : CTn T σ) (h : ob a 4) (hS : CSk T a S σ) : FX4_wetOnes a σ = some (wnS T S, σ) := by
  rw [c_wetOnes hT.1 h]
  rw [btF_cong (q := fun k => decide (¬ S 0 k ≤ 0)) (fun c hc => by rw [(hS.2 c hc).1])]
  rfl
theorem ks_clothsOn {T : TW} {S : SK} {σ : MM} {a : Nat} (hT : CTn T σ) (h : ob a 4) (hS : CSk T a S σ) (l : Int32) : FX4_clothsOn a l σ = some (onS T S l, σ) := by
  rw [c_clothsOn hT.1 h]
  rw [btF_cong (q := fun k => decide (S 1 k = l)) (fun c hc => by rw [(hS.2 c hc).2.1])]
  rfl
theorem ks_wind {T : TW} {S : SK} {σ : MM} {a p : Nat} (hT : CTn T σ) (h : ob a 4) (hS : CSk T a S σ) (hp : p < T.1 1) : FX4_wind a (nI p) σ = some (wdS T S p, σ) := by
  have h5 := hT.1.2.2.2.2.1
  rw [c_wind hT.1 h (by omega), hT.2.2.1 p hp]
  rw [wdF_cong (g := S 2) (q := fun k => abv (T.2 2 p) (S 1 k)) (fun c hc => ⟨(hS.2 c hc).2.2, by rw [(hS.2 c hc).2.1]⟩)]
  rfl
theorem kdc_cong {T : TW} {S : SK} {σ : MM} {a p : Nat} (hT : CTn T σ) (hS : CSk T a S σ) (hp : p < T.1 1) (out : Int32) (j : Nat) : hmF (kdc (σ.1 (a + 1)) (σ.1 (a + 2)) (σ.1 10) (σ.1 9 p) out j) (T.1 2) = cnS T S p out j := by
  unfold cnS
  refine hmF_cong (fun c hc => ?_)
  unfold kdc
  rw [(hS.2 c hc).1, (hS.2 c hc).2.1, hT.2.2.1 p hp, (hT.2.2.2.1 c hc).1]
theorem ks_weather {T : TW} {S : SK} {σ : MM} {a p : Nat} (hV : VTn T) (hT : CTn T σ) (h : ob a 4) (hS : CSk T a S σ) (hp : p < T.1 1) (out : Int32) : ∃ τ, FX4_weather a (nI p) out σ = some ((wxS T S p out).1, τ) ∧ eqr (fun b _ => b = a + 4) σ τ ∧ ∀ j, j < 4 → τ.1 (a + 4) j = cnS T S p out j := by
  have h5 := hT.1.2.2.2.2.1
  refine ⟨tlR σ a p (T.1 2) out, ?_, eqr_x eqx_tl, fun j hj => ?_⟩
  · rw [c_weather hT.1 (CTn_TK hV hT) h (by omega) out]
    unfold wxc wxS
    rw [wst_cong (g := cnS T S p out) (fun j _ => kdc_cong hT hS hp out j) (Nat.le_refl 4)]
  · simp only [tlR, setr_at, hj, if_true]
    exact kdc_cong hT hS hp out j
theorem ks_counts {T : TW} {S : SK} {σ : MM} {a p : Nat} (hV : VTn T) (hT : CTn T σ) (h : ob a 4) (hS : CSk T a S σ) (hp : p < T.1 1) (out : Int32) : ∃ τ, FX4_countKinds a (nI p) out σ = some ((), τ) ∧ eqr (fun b _ => b = a + 4) σ τ ∧ ∀ j, j < 4 → τ.1 (a + 4) j = cnS T S p out j := by
  have h5 := hT.1.2.2.2.2.1
  refine ⟨tlR σ a p (T.1 2) out, ?_, eqr_x eqx_tl, fun j hj => ?_⟩
  · rw [c_countKinds hT.1 (CTn_TK hV hT) h (by omega) out]
    rfl
  · simp only [tlR, setr_at, hj, if_true]
    exact kdc_cong hT hS hp out j
theorem ks_thunders {T : TW} {S : SK} {σ : MM} {a : Nat} (hV : VTn T) (hT : CTn T σ) (h : ob a 4) (hS : CSk T a S σ) : wp (FX4_thunders a) σ (fun b τ => eqr (fun b _ => b = a + 4) σ τ ∧ (b = true ↔ ∃ p, p < T.1 1 ∧ weS T S p = 2)) := by
  refine wp_mono (c_thunders hT.1 (CTn_TK hV hT) h) (fun b τ q => ⟨eqr_x q.1, q.2.trans ?_⟩)
  have : ∀ p, p < T.1 1 → wec σ a p (T.1 2) = weS T S p := fun p hp => by
    unfold wec weS wxc wxS
    rw [wst_cong (g := cnS T S p 0) (fun j _ => kdc_cong hT hS hp 0 j) (Nat.le_refl 4)]
  constructor
  · rintro ⟨p, hp, e⟩; exact ⟨p, hp, by rw [← this p hp]; exact e⟩
  · rintro ⟨p, hp, e⟩; exact ⟨p, hp, by rw [this p hp]; exact e⟩
/-! the model's -/
theorem ms_freeOf {T : TW} {S : SK} {σ : MM} {b l : Nat} (hT : MTn T σ) (hb : okB b) (hS : MSk T b S σ) (hl : l < T.1 0) : FX12_freeOf 249 (nI b) (nI l) σ = some (frS T S l, σ) := by
  have h5 := hT.1.2.2.2.1
  rw [m_freeOf hT.1 hb (by omega), (hT.2.1 l hl).1]
  rw [fr_cong (on2 := S 1) (pb2 := S 2) (fun c hc => ⟨(hS.2 c hc).2.1, (hS.2 c hc).2.2⟩)]
  rfl
theorem ms_onLine {T : TW} {S : SK} {σ : MM} {b : Nat} (hT : MTn T σ) (hb : okB b) (hS : MSk T b S σ) (l : Int32) : FX12_onLine 249 (nI b) l σ = some (onS T S l, σ) := by
  rw [m_onLine hT.1 hb]
  rw [btF_cong (q := fun k => decide (S 1 k = l)) (fun c hc => by rw [(hS.2 c hc).2.1])]
  rfl
theorem vs_on {T : TW} {S : SK} (hV : VTn T) (hv : VSk T S) {c : Nat} (hc : c < T.1 2) : (S 1 c = -1) = (S 1 c < 0) := by
  have := hang_iff hV.1.1 (hv c hc).2.1
  exact propext ⟨fun e => Classical.not_not.mp (fun n => this.mpr n e), fun e => Classical.not_not.mp (fun n => this.mp n e)⟩
theorem ms_doesHang {T : TW} {S : SK} {σ : MM} {b c : Nat} (hV : VTn T) (hb : okB b) (hS : MSk T b S σ) (hv : VSk T S) (hc : c < T.1 2) : FX12_doesHang 249 (nI b) (nI c) σ = some (decide (¬ S 1 c = -1), σ) := by
  have h6 := hV.1.2.2.1
  rw [m_doesHang hb (by omega), (hS.2 c hc).2.1]
  simp only [vs_on hV hv hc]
theorem ms_isWet {T : TW} {S : SK} {σ : MM} {b c : Nat} (hV : VTn T) (hb : okB b) (hS : MSk T b S σ) (hc : c < T.1 2) : FX12_isWet 249 (nI b) (nI c) σ = some (decide (¬ S 0 c ≤ 0), σ) := by
  have h6 := hV.1.2.2.1
  rw [m_isWet hb (by omega), (hS.2 c hc).1]
theorem ms_hanging {T : TW} {S : SK} {σ : MM} {b : Nat} (hV : VTn T) (hT : MTn T σ) (hb : okB b) (hS : MSk T b S σ) (hv : VSk T S) : FX12_hanging 249 (nI b) σ = some (hgS T S, σ) := by
  rw [m_hanging hT.1 hb]
  rw [btF_cong (q := fun k => decide (¬ S 1 k = -1)) (fun c hc => by simp only [(hS.2 c hc).2.1, vs_on hV hv hc])]
  rfl
theorem kdm_cong {T : TW} {S : SK} {σ : MM} {b p : Nat} (hV : VTn T) (hT : MTn T σ) (hS : MSk T b S σ) (hv : VSk T S) (hp : p < T.1 1) (j : Nat) : hmF (kdm σ b p j) (T.1 2) = cnS T S p 0 j := by
  have h6 := hV.1.2.2.1
  unfold cnS
  refine hmF_cong (fun c hc => ?_)
  unfold kdm kdc wtw
  rw [(hS.2 c hc).1, (hS.2 c hc).2.1, hT.2.2.1 p hp, (hT.2.2.2.1 c hc).1, abv_abm hV.1.1 (hv c hc).2.1, zshr c (by omega)]
  simp
theorem ms_howMany {T : TW} {S : SK} {σ : MM} {b p kind : Nat} (hV : VTn T) (hT : MTn T σ) (hb : okB b) (hS : MSk T b S σ) (hv : VSk T S) (hp : p < T.1 1) : FX12_howMany 249 (nI b) (nI p) (nI kind) σ = some (cnS T S p 0 kind, σ) := by
  have h5 := hV.1.2.1
  rw [m_howMany hT.1 hb (by omega), kdm_cong hV hT hS hv hp]
theorem ms_weather {T : TW} {S : SK} {σ : MM} {b p : Nat} (hV : VTn T) (hT : MTn T σ) (hb : okB b) (hS : MSk T b S σ) (hv : VSk T S) (hp : p < T.1 1) : FX12_weatherOf 249 (nI b) (nI p) σ = some (weS T S p, σ) := by
  have h5 := hV.1.2.1
  rw [m_weatherOf hT.1 hb (by omega)]
  unfold wem weS wxS
  rw [wst_cong (g := cnS T S p 0) (fun j _ => kdm_cong hV hT hS hv hp j) (Nat.le_refl 4)]
theorem ms_isThunder {T : TW} {S : SK} {σ : MM} {b : Nat} (hV : VTn T) (hT : MTn T σ) (hb : okB b) (hS : MSk T b S σ) (hv : VSk T S) : ∃ r, FX12_isThunder 249 (nI b) σ = some (r, σ) ∧ (r = true ↔ ∃ p, p < T.1 1 ∧ weS T S p = 2) := by
  obtain ⟨r, e, h⟩ := m_isThunder hT.1 hb
  refine ⟨r, e, h.trans ?_⟩
  have : ∀ p, p < T.1 1 → wem σ b p (T.1 2) = weS T S p := fun p hp => by
    unfold wem weS wxS
    rw [wst_cong (g := cnS T S p 0) (fun j _ => kdm_cong hV hT hS hv hp j) (Nat.le_refl 4)]
  constructor
  · rintro ⟨p, hp, e⟩; exact ⟨p, hp, by rw [← this p hp]; exact e⟩
  · rintro ⟨p, hp, e⟩; exact ⟨p, hp, by rw [this p hp]; exact e⟩
theorem ms_wind {T : TW} {S : SK} {σ : MM} {p : Nat} (hV : VTn T) (hT : MTn T σ) (hS : MSk T 0 S σ) (hv : VSk T S) (hp : p < T.1 1) : FX12_windOf 249 (nI p) σ = some (wdS T S p, σ) := by
  have h5 := hV.1.2.1
  rw [m_windOf hT.1 (by omega), hT.2.2.1 p hp]
  rw [wdF_cong (g := S 2) (q := fun k => abv (T.2 2 p) (S 1 k)) (fun c hc => ?_)]
  · rfl
  · have h1 := (hS.2 c hc).2.1
    have h2 := (hS.2 c hc).2.2
    rw [show 0 + 7 + c = 7 + c by omega] at h1
    rw [show 0 + 13 + c = 13 + c by omega] at h2
    exact ⟨h2, by rw [h1, abv_abm hV.1.1 (hv c hc).2.1]⟩
