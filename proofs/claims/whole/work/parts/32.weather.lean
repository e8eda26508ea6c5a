/-! ===== weather and wind ===== -/
/-- one row of the memory in place of another -/
def setr (f : Nat → Nat → Int32) (a : Nat) (g : Nat → Int32) : Nat → Nat → Int32 := fun b j => if b = a then g j else f b j
theorem setr_ne {f : Nat → Nat → Int32} {a b : Nat} {g : Nat → Int32} (h : b ≠ a) : setr f a g b = f b := by funext j; simp [setr, h]
theorem setr_at {f : Nat → Nat → Int32} {a : Nat} {g : Nat → Int32} : setr f a g a = g := by funext j; simp [setr]
theorem up2_setr {f : Nat → Nat → Int32} {a j : Nat} {g : Nat → Int32} {x : Int32} : up2 (setr f a g) a j x = setr f a (fun i => if i = j then x else g i) := by
  funext b i
  by_cases h : b = a <;> by_cases h2 : i = j <;> simp [up2, setr, h, h2]
theorem up2_as {f : Nat → Nat → Int32} {a j : Nat} {x : Int32} : up2 f a j x = setr f a (fun i => if i = j then x else f a i) := by
  funext b i
  by_cases h : b = a <;> by_cases h2 : i = j <;> simp [up2, setr, h, h2]
theorem setr_self {f : Nat → Nat → Int32} {a : Nat} : setr f a (f a) = f := by
  funext b i
  by_cases h : b = a <;> simp [setr, h]
theorem sky_ge : ∀ a, a < 270 → sh a = (4, 0) → 38 ≤ a ∧ a ≤ 244 := by decide +kernel
/-- a cloth hangs above a place -/
def abv (ab o : Int32) : Bool := decide (¬ o = -1) && decide ((ab >>> (o &&& 31)) &&& 1 = 1)
/-- it is wet, and not among those left out -/
def wtw (w o : Int32) (k : Nat) : Bool := decide (¬ w ≤ 0) && decide ((o >>> (nI k &&& 31)) &&& 1 = 0)
def kdc (wet on kd : Nat → Int32) (ab out : Int32) (kind : Nat) (k : Nat) : Bool := abv ab (on k) && (wtw (wet k) out k && decide (kd k = nI kind))
/-- the class's street: kinds are kinds -/
def TK (σ : MM) (nc : Nat) : Prop := ∀ c, c < nc → ∃ k, k < 4 ∧ σ.1 10 c = nI k
theorem c_countKinds {σ : MM} {nl np nc a p : Nat} (hT : TC σ nl np nc) (hk : TK σ nc) (h : ob a 4) (hp : p < 4) (out : Int32) : FX4_countKinds a (nI p) out σ = some ((), (setr σ.1 (a + 4) (fun j => if j < 4 then hmF (kdc (σ.1 (a + 1)) (σ.1 (a + 2)) (σ.1 10) (σ.1 9 p) out j) nc else σ.1 (a + 4) j), σ.2)) := by
  obtain ⟨-, -, h3, -, -, h6⟩ := hT
  obtain ⟨ha1, ha2⟩ := sky_ge a h.1 h.2
  unfold FX4_countKinds
  rw [sk0 h, sk1 h, sk2 h, sk4 h, r3_5, r3_6]
  have n1 : (3 : Nat) ≠ a + 4 := by omega
  have n2 : (9 : Nat) ≠ a + 4 := by omega
  have n3 : (10 : Nat) ≠ a + 4 := by omega
  have n4 : a + 1 ≠ a + 4 := by omega
  have n5 : a + 2 ≠ a + 4 := by omega
  refine (bd_its (r := ()) (σ' := (setr σ.1 (a + 4) (fun j => if j < 4 then 0 else σ.1 (a + 4) j), σ.2)) (fun k => nI k) (fun k => (setr σ.1 (a + 4) (fun j => if j < k then 0 else σ.1 (a + 4) j), σ.2)) 4 rfl ?_ ?_ ?_ (by decide)).trans ?_
  · simp only [Nat.not_lt_zero, if_false]
    rw [setr_self]
  · intro k hk
    have e1 := ev_uI (a := a + 4) (n := 4) (x := 0) (σ := (setr σ.1 (a + 4) (fun j => if j < k then 0 else σ.1 (a + 4) j), σ.2)) hk (by decide)
    have e2 : ¬ (4 : Int32) ≤ nI k := nle_n hk (by decide)
    simp only [e2, if_false, bd, e1, lt, pu, nI_1, up2_setr]
    congr 4
    funext j
    by_cases q1 : j = k
    · simp [q1]
    · by_cases q2 : j < k
      · simp [q1, q2, Nat.lt_succ_of_lt q2]
      · simp [q1, q2, show ¬ j < k + 1 by omega]
  · have e2 : (4 : Int32) ≤ nI 4 := by decide
    simp only [e2, if_true, pu]
  · have e3 := ev_aI (a := 9) (n := 4) (σ := ((setr σ.1 (a + 4) (fun j => if j < 4 then 0 else σ.1 (a + 4) j), σ.2) : MM)) hp (by decide)
    rw [ev_bd e3]
    simp only [setr_ne n2]
    refine (bd_its (r := ()) (fun k => nI k) (fun k => (setr σ.1 (a + 4) (fun j => if j < 4 then hmF (kdc (σ.1 (a + 1)) (σ.1 (a + 2)) (σ.1 10) (σ.1 9 p) out j) k else σ.1 (a + 4) j), σ.2)) nc rfl rfl ?_ ?_ (by omega)).trans rfl
    · intro k hkn
      have g0 : ∀ g : Nat → Int32, gI 3 11 ((setr σ.1 (a + 4) g, σ.2) : MM) = some (nI nc, (setr σ.1 (a + 4) g, σ.2)) := fun g => by unfold gI; simp only [setr_ne n1, h3]
      have g1 : ∀ g : Nat → Int32, aI (a + 2) 6 (nI k) ((setr σ.1 (a + 4) g, σ.2) : MM) = some (σ.1 (a + 2) k, (setr σ.1 (a + 4) g, σ.2)) := fun g => by rw [ev_aI (by omega) (by decide)]; simp only [setr_ne n5]
      have g2 : ∀ g : Nat → Int32, aI (a + 1) 6 (nI k) ((setr σ.1 (a + 4) g, σ.2) : MM) = some (σ.1 (a + 1) k, (setr σ.1 (a + 4) g, σ.2)) := fun g => by rw [ev_aI (by omega) (by decide)]; simp only [setr_ne n4]
      obtain ⟨kd, hkd, ekd⟩ := hk k hkn
      have g3 : ∀ g : Nat → Int32, aI 10 6 (nI k) ((setr σ.1 (a + 4) g, σ.2) : MM) = some (nI kd, (setr σ.1 (a + 4) g, σ.2)) := fun g => by rw [ev_aI (by omega) (by decide)]; simp only [setr_ne n3, ekd]
      have g4 : ∀ g : Nat → Int32, aI (a + 4) 4 (nI kd) ((setr σ.1 (a + 4) g, σ.2) : MM) = some (g kd, (setr σ.1 (a + 4) g, σ.2)) := fun g => by rw [ev_aI hkd (by decide)]; simp only [setr_at]
      have g5 : ∀ (g : Nat → Int32) (x : Int32), uI (a + 4) 4 (nI kd) x ((setr σ.1 (a + 4) g, σ.2) : MM) = some ((), (setr σ.1 (a + 4) (fun i => if i = kd then x else g i), σ.2)) := fun g x => by rw [ev_uI hkd (by decide)]; simp only [up2_setr]
      have keq : ∀ j, j < 4 → (σ.1 10 k = nI j ↔ j = kd) := fun j hj => by rw [ekd, nI_eq (by omega) (by omega)]; exact eq_comm
      have hrow : ∀ (P : Bool), (P = (abv (σ.1 9 p) (σ.1 (a + 2) k) && wtw (σ.1 (a + 1) k) out k)) → (fun j => if j < 4 then hmF (kdc (σ.1 (a + 1)) (σ.1 (a + 2)) (σ.1 10) (σ.1 9 p) out j) (k + 1) else σ.1 (a + 4) j) = (fun j => if P = true ∧ j = kd then hmF (kdc (σ.1 (a + 1)) (σ.1 (a + 2)) (σ.1 10) (σ.1 9 p) out kd) k + 1 else if j < 4 then hmF (kdc (σ.1 (a + 1)) (σ.1 (a + 2)) (σ.1 10) (σ.1 9 p) out j) k else σ.1 (a + 4) j) := by
        intro P hPe
        funext j
        by_cases hj : j < 4
        · have hc : kdc (σ.1 (a + 1)) (σ.1 (a + 2)) (σ.1 10) (σ.1 9 p) out j k = (P && decide (j = kd)) := by
            unfold kdc
            rw [hPe, ← Bool.and_assoc]
            congr 1
            exact decide_eq_decide.mpr (keq j hj)
          simp only [hj, if_true, hmF, hc]
          by_cases hjk : j = kd
          · subst hjk
            cases P <;> simp
          · cases P <;> simp [hjk]
        · have : ¬ j = kd := by omega
          simp [hj, this]
      by_cases q1 : σ.1 (a + 2) k = -1
      · have hr := hrow false (by simp [abv, q1])
        simp [bd, g0, nle_n hkn (by omega), g1, q1, lt, pu, nI_1, hr]
      · by_cases q2 : (σ.1 9 p >>> (σ.1 (a + 2) k &&& 31)) &&& 1 = 1
        · by_cases q3 : σ.1 (a + 1) k ≤ 0
          · have hr := hrow false (by simp [abv, wtw, q3])
            simp [bd, g0, nle_n hkn (by omega), g1, g2, q1, q2, q3, lt, pu, nI_1, hr]
          · by_cases q4 : (out >>> (nI k &&& 31)) &&& 1 = 0
            · have hr := hrow true (by simp [abv, wtw, q1, q2, q3, q4])
              have : kd < 4 := hkd
              simp [bd, g0, nle_n hkn (by omega), g1, g2, g3, g4, g5, q1, q2, q3, q4, lt, pu, nI_1, hr, this]
            · have hr := hrow false (by simp [abv, wtw, q4])
              simp [bd, g0, nle_n hkn (by omega), g1, g2, q1, q2, q3, q4, lt, pu, nI_1, hr]
        · have hr := hrow false (by simp [abv, q2])
          simp [bd, g0, nle_n hkn (by omega), g1, q1, q2, lt, pu, nI_1, hr]
    · have g0 : ∀ g : Nat → Int32, gI 3 11 ((setr σ.1 (a + 4) g, σ.2) : MM) = some (nI nc, (setr σ.1 (a + 4) g, σ.2)) := fun g => by unfold gI; simp only [setr_ne n1, h3]
      simp [bd, g0, le_nn (show nc < 2 ^ 31 by omega), pu]
/-- the kinds by their rank -/
def rk (i : Nat) : Nat := ([2, 3, 0, 1] : List Nat).getD i 0
theorem rk_lt : ∀ i, i < 4 → rk i < 4 := by decide
theorem rk_rnk : ∀ i, i < 4 → rnk.getD i 0 = nI (rk i) := by decide +kernel
def wst (h : Nat → Int32) : Nat → Int32 × Int32
  | 0 => (-1, 0)
  | i + 1 => if h (rk i) ≤ (wst h i).2 then wst h i else (nI (rk i), h (rk i))
theorem wst_cong {h g : Nat → Int32} (e : ∀ k, k < 4 → h k = g k) : ∀ {i : Nat}, i ≤ 4 → wst h i = wst g i
  | 0, _ => rfl
  | i + 1, hi => by
    show (if h (rk i) ≤ (wst h i).2 then wst h i else (nI (rk i), h (rk i))) = (if g (rk i) ≤ (wst g i).2 then wst g i else (nI (rk i), g (rk i)))
    rw [wst_cong e (by omega), e (rk i) (rk_lt i (by omega))]
theorem ev_aR {i : Nat} {σ : MM} (h : i < 4) : aR (nI i) σ = some (nI (rk i), σ) := by
  unfold aR
  rw [if_pos (ib_n h (by decide)), cl_n (by omega), rk_rnk i h]
/-- weather of the class's sky: what the tally becomes besides -/
def tlR (σ : MM) (a p nc : Nat) (out : Int32) : MM := (setr σ.1 (a + 4) (fun j => if j < 4 then hmF (kdc (σ.1 (a + 1)) (σ.1 (a + 2)) (σ.1 10) (σ.1 9 p) out j) nc else σ.1 (a + 4) j), σ.2)
def wxc (σ : MM) (a p nc : Nat) (out : Int32) : Int32 × Int32 := wst (fun j => hmF (kdc (σ.1 (a + 1)) (σ.1 (a + 2)) (σ.1 10) (σ.1 9 p) out j) nc) 4
theorem c_weather {σ : MM} {nl np nc a p : Nat} (hT : TC σ nl np nc) (hk : TK σ nc) (h : ob a 4) (hp : p < 4) (out : Int32) : FX4_weather a (nI p) out σ = some ((wxc σ a p nc out).1, tlR σ a p nc out) := by
  unfold FX4_weather
  rw [ev_bd (c_countKinds hT hk h hp out), sk4 h]
  show bd (it _ FU _) _ (tlR σ a p nc out) = _
  refine (bd_it (fun i => ((wst (fun j => hmF (kdc (σ.1 (a + 1)) (σ.1 (a + 2)) (σ.1 10) (σ.1 9 p) out j) nc) i).1, (wst (fun j => hmF (kdc (σ.1 (a + 1)) (σ.1 (a + 2)) (σ.1 10) (σ.1 9 p) out j) nc) i).2, nI i)) 4 rfl ?_ ?_ (by decide)).trans rfl
  · intro i hi
    have e1 : ∀ τ : MM, aR (nI i) τ = some (nI (rk i), τ) := fun τ => ev_aR hi
    have hr := rk_lt i hi
    have e2 : aI (a + 4) 4 (nI (rk i)) (tlR σ a p nc out) = some (hmF (kdc (σ.1 (a + 1)) (σ.1 (a + 2)) (σ.1 10) (σ.1 9 p) out (rk i)) nc, tlR σ a p nc out) := by
      rw [ev_aI hr (by decide)]
      simp only [tlR, setr_at, hr, if_true]
    have e3 : ¬ (4 : Int32) ≤ nI i := nle_n hi (by decide)
    by_cases q : hmF (kdc (σ.1 (a + 1)) (σ.1 (a + 2)) (σ.1 10) (σ.1 9 p) out (rk i)) nc ≤ (wst (fun j => hmF (kdc (σ.1 (a + 1)) (σ.1 (a + 2)) (σ.1 10) (σ.1 9 p) out j) nc) i).2 <;> simp [bd, e1, e2, e3, q, wst, lt, pu, nI_1]
  · have e3 : (4 : Int32) ≤ nI 4 := by decide
    simp [e3, pu]
    rfl
theorem it_inv {α β : Type} {body : α → PP (α ⊕ β)} (J : Nat → α → MM → Prop) (Q : β → MM → Prop) (m : Nat) (hm : m < 10000) (h : ∀ k a σ, k ≤ m → J k a σ → (∃ a' σ', body a σ = some (.inl a', σ') ∧ k < m ∧ J (k + 1) a' σ') ∨ (∃ b σ', body a σ = some (.inr b, σ') ∧ Q b σ')) {a : α} {σ : MM} (h0 : J 0 a σ) : ∃ b σ', it body FU a σ = some (b, σ') ∧ Q b σ' := by
  have key : ∀ j k, k + j = m → ∀ N, j < N → ∀ a σ, J k a σ → ∃ b σ', it body N a σ = some (b, σ') ∧ Q b σ' := by
    intro j
    induction j with
    | zero =>
      intro k hk N hN a σ hJ
      cases N with
      | zero => omega
      | succ N =>
        rcases h k a σ (by omega) hJ with ⟨a', σ', e, hlt, -⟩ | ⟨b, σ', e, hq⟩
        · omega
        · refine ⟨b, σ', ?_, hq⟩
          show bd (body a) (Sum.elim (it body N) pu) σ = _
          rw [ev_bd e]
          rfl
    | succ j ih =>
      intro k hk N hN a σ hJ
      cases N with
      | zero => omega
      | succ N =>
        rcases h k a σ (by omega) hJ with ⟨a', σ', e, hlt, hJ'⟩ | ⟨b, σ', e, hq⟩
        · obtain ⟨b, σ2, e2, hq⟩ := ih (k + 1) (by omega) N (by omega) a' σ' hJ'
          refine ⟨b, σ2, ?_, hq⟩
          show bd (body a) (Sum.elim (it body N) pu) σ = _
          rw [ev_bd e]
          exact e2
        · refine ⟨b, σ', ?_, hq⟩
          show bd (body a) (Sum.elim (it body N) pu) σ = _
          rw [ev_bd e]
          rfl
  exact key m 0 (by omega) FU (fu_lt hm) a σ h0
/-- it comes to an end, with that -/
def wp {α : Type} (c : PP α) (σ : MM) (P : α → MM → Prop) : Prop := ∃ r τ, c σ = some (r, τ) ∧ P r τ
theorem wp_it {α β γ : Type} {body : α → PP (α ⊕ β)} {kk : β → PP γ} {P : γ → MM → Prop} (J : Nat → α → MM → Prop) (m : Nat) (hm : m < 10000) (h : ∀ k a σ, k ≤ m → J k a σ → (∃ a' σ', body a σ = some (.inl a', σ') ∧ k < m ∧ J (k + 1) a' σ') ∨ (∃ b σ', body a σ = some (.inr b, σ') ∧ wp (kk b) σ' P)) {a : α} {σ : MM} (h0 : J 0 a σ) : wp (bd (it body FU a) kk) σ P := by
  obtain ⟨b, τ, e, r, υ, e2, q⟩ := it_inv J (fun b τ => wp (kk b) τ P) m hm h h0
  exact ⟨r, υ, by rw [ev_bd e]; exact e2, q⟩
theorem wp_pu {α : Type} {a : α} {σ : MM} {P : α → MM → Prop} (h : P a σ) : wp (pu a) σ P := ⟨a, σ, rfl, h⟩
theorem wp_eq {α β : Type} {c : PP α} {k : α → PP β} {σ τ : MM} {x : α} {P : β → MM → Prop} (e : c σ = some (x, τ)) (h : wp (k x) τ P) : wp (bd c k) σ P := by
  obtain ⟨r, υ, e2, q⟩ := h
  exact ⟨r, υ, by rw [ev_bd e]; exact e2, q⟩
theorem wp_bd {α β : Type} {c : PP α} {k : α → PP β} {σ : MM} {Q : α → MM → Prop} {P : β → MM → Prop} (hc : wp c σ Q) (h : ∀ x τ, Q x τ → wp (k x) τ P) : wp (bd c k) σ P := by
  obtain ⟨x, τ, e, q⟩ := hc
  exact wp_eq e (h x τ q)
theorem wp_mono {α : Type} {c : PP α} {σ : MM} {Q P : α → MM → Prop} (hc : wp c σ Q) (h : ∀ x τ, Q x τ → P x τ) : wp c σ P := by
  obtain ⟨x, τ, e, q⟩ := hc
  exact ⟨x, τ, e, h x τ q⟩
/-- memories alike but for some rows of ints -/
def eqx (R : Nat → Prop) (σ τ : MM) : Prop := (∀ b, ¬ R b → τ.1 b = σ.1 b) ∧ τ.2 = σ.2
theorem eqx_rf {R : Nat → Prop} {σ : MM} : eqx R σ σ := ⟨fun _ _ => rfl, rfl⟩
theorem eqx_tr {R : Nat → Prop} {σ τ υ : MM} (h1 : eqx R σ τ) (h2 : eqx R τ υ) : eqx R σ υ := ⟨fun b hb => (h2.1 b hb).trans (h1.1 b hb), h2.2.trans h1.2⟩
theorem eqx_mono {R S : Nat → Prop} {σ τ : MM} (h : eqx R σ τ) (hRS : ∀ b, R b → S b) : eqx S σ τ := ⟨fun b hb => h.1 b (fun q => hb (hRS b q)), h.2⟩
theorem eqx_tl {σ : MM} {a p nc : Nat} {out : Int32} : eqx (fun b => b = a + 4) σ (tlR σ a p nc out) := ⟨fun b hb => setr_ne hb, rfl⟩
theorem TC_eqx {R : Nat → Prop} {σ τ : MM} {nl np nc : Nat} (h : eqx R σ τ) (h3 : ¬ R 3) (hT : TC σ nl np nc) : TC τ nl np nc := by
  unfold TC at hT ⊢
  rw [h.1 3 h3]
  exact hT
theorem TK_eqx {R : Nat → Prop} {σ τ : MM} {nc : Nat} (h : eqx R σ τ) (h3 : ¬ R 10) (hT : TK σ nc) : TK τ nc := by
  unfold TK at hT ⊢
  rw [h.1 10 h3]
  exact hT
theorem wxc_eqx {R : Nat → Prop} {σ τ : MM} {a p nc : Nat} {out : Int32} (h : eqx R σ τ) (h1 : ¬ R (a + 1)) (h2 : ¬ R (a + 2)) (h3 : ¬ R 10) (h4 : ¬ R 9) : wxc τ a p nc out = wxc σ a p nc out := by
  unfold wxc
  rw [h.1 _ h1, h.1 _ h2, h.1 _ h3, h.1 _ h4]
/-- the weather of a place in the class's sky -/
def wec (σ : MM) (a p nc : Nat) : Int32 := (wxc σ a p nc 0).1
theorem c_weather0 {σ : MM} {nl np nc a p : Nat} (hT : TC σ nl np nc) (hk : TK σ nc) (h : ob a 4) (hp : p < np) : ∃ τ, FX4_weather a (nI p) 0 σ = some (wec σ a p nc, τ) ∧ eqx (fun b => b = a + 4) σ τ := ⟨_, c_weather hT hk h (by have := hT.2.2.2.2.1; omega) 0, eqx_tl⟩
theorem c_thunders {σ : MM} {nl np nc a : Nat} (hT : TC σ nl np nc) (hk : TK σ nc) (h : ob a 4) : wp (FX4_thunders a) σ (fun b τ => eqx (fun b => b = a + 4) σ τ ∧ (b = true ↔ ∃ p, p < np ∧ wec σ a p nc = 2)) := by
  obtain ⟨ha1, ha2⟩ := sky_ge a h.1 h.2
  have hnp := hT.2.2.2.2.1
  unfold FX4_thunders
  rw [sk0 h]
  refine wp_it (fun k x τ => x = nI k ∧ eqx (fun b => b = a + 4) σ τ ∧ ∀ p, p < k → ¬ wec σ a p nc = 2) np (by omega) ?_ ⟨rfl, eqx_rf, fun p hp => by omega⟩
  rintro k x τ hkm ⟨rfl, hq, hp⟩
  have hT' := TC_eqx hq (by omega) hT
  have hk' := TK_eqx hq (by omega) hk
  have g : gI 3 10 τ = some (nI np, τ) := by unfold gI; rw [hT'.2.1]
  by_cases hkn : k < np
  · obtain ⟨υ, e1, e2⟩ := c_weather0 hT' hk' h hkn
    have ew : wec τ a k nc = wec σ a k nc := by unfold wec; rw [wxc_eqx hq (by omega) (by omega) (by omega) (by omega)]
    rw [ew] at e1
    by_cases q2 : wec σ a k nc = 2
    · right
      refine ⟨.inr (), υ, ?_, ⟨true, υ, rfl, eqx_tr hq e2, ?_⟩⟩
      · simp [bd, g, nle_n hkn (by omega), e1, q2, pu]
      · simp only [true_iff]
        exact ⟨k, hkn, q2⟩
    · left
      refine ⟨nI (k + 1), υ, ?_, hkn, rfl, eqx_tr hq e2, ?_⟩
      · simp [bd, g, nle_n hkn (by omega), e1, q2, pu, lt, nI_1]
      · intro p hpk
        by_cases hpe : p = k
        · subst hpe; exact q2
        · exact hp p (by omega)
  · right
    have : k = np := by omega
    subst this
    refine ⟨.inl (), τ, ?_, ⟨false, τ, rfl, hq, ?_⟩⟩
    · simp [bd, g, le_nn (show k < 2 ^ 31 by omega), pu]
    · simp only [Bool.false_eq_true, false_iff]
      rintro ⟨p, h1, h2⟩
      exact hp p h1 h2
