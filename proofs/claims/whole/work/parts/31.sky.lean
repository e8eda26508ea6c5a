/-! ===== the sky, as both sides read it ===== -/
def inN (x : Int32) (n : Nat) : Bool := decide (¬ x < 0) && decide (¬ nI n ≤ x)
theorem inN_ex {x : Int32} {n : Nat} (hn : n < 2 ^ 31) (h : inN x n = true) : ∃ k, k < n ∧ x = nI k := by
  unfold inN at h
  simp only [Bool.and_eq_true, decide_eq_true_eq] at h
  rcases pk_ix x hn with q | q | q
  · exact absurd q h.1
  · exact absurd q h.2
  · exact q
theorem inN_nI {k n : Nat} (h : k < n) (hn : n < 2 ^ 31) : inN (nI k) n = true := by
  unfold inN
  simp only [Bool.and_eq_true, decide_eq_true_eq]
  exact ⟨nI_pos (by omega), nI_ge h hn⟩
def btF (p : Nat → Bool) : Nat → Int32
  | 0 => 0
  | k + 1 => btF p k ||| (if p k = true then (1 : Int32) <<< (nI k &&& 31) else 0)
theorem btF_cong {p q : Nat → Bool} : ∀ {n : Nat}, (∀ k, k < n → p k = q k) → btF p n = btF q n
  | 0, _ => rfl
  | n + 1, h => by
    show btF p n ||| _ = btF q n ||| _
    rw [btF_cong (fun k hk => h k (by omega)), h n (by omega)]
def hmF (p : Nat → Bool) : Nat → Int32
  | 0 => 0
  | k + 1 => if p k = true then hmF p k + 1 else hmF p k
theorem hmF_cong {p q : Nat → Bool} : ∀ {n : Nat}, (∀ k, k < n → p k = q k) → hmF p n = hmF q n
  | 0, _ => rfl
  | n + 1, h => by
    show (if p n = true then hmF p n + 1 else hmF p n) = (if q n = true then hmF q n + 1 else hmF q n)
    rw [hmF_cong (fun k hk => h k (by omega)), h n (by omega)]
theorem fr_cong {p : Int32} {on pb on2 pb2 : Nat → Int32} {l : Int32} : ∀ {n : Nat}, (∀ k, k < n → on k = on2 k ∧ pb k = pb2 k) → fr p on pb l n = fr p on2 pb2 l n
  | 0, _ => rfl
  | n + 1, h => by
    show (if on n = l then fr p on pb l n - pb n else fr p on pb l n) = (if on2 n = l then fr p on2 pb2 l n - pb2 n else fr p on2 pb2 l n)
    rw [fr_cong (fun k hk => h k (by omega)), (h n (by omega)).1, (h n (by omega)).2]
theorem c_hasCloth {σ : MM} {nl np nc : Nat} (hT : TC σ nl np nc) (x : Int32) : FX7_hasCloth 3 x σ = some (inN x nc, σ) := by
  obtain ⟨h1, h2, h3, -⟩ := hT
  unfold FX7_hasCloth
  by_cases q1 : x < 0 <;> by_cases q2 : nI nc ≤ x <;> simp [bd, gI, h3, zb, pu, inN, q1, q2]
theorem c_hasLine {σ : MM} {nl np nc : Nat} (hT : TC σ nl np nc) (x : Int32) : FX7_hasLine 3 x σ = some (inN x nl, σ) := by
  obtain ⟨h1, h2, h3, -⟩ := hT
  unfold FX7_hasLine
  by_cases q1 : x < 0 <;> by_cases q2 : nI nl ≤ x <;> simp [bd, gI, h1, zb, pu, inN, q1, q2]
theorem c_hasPlace {σ : MM} {nl np nc : Nat} (hT : TC σ nl np nc) (x : Int32) : FX7_hasPlace 3 x σ = some (inN x np, σ) := by
  obtain ⟨h1, h2, h3, -⟩ := hT
  unfold FX7_hasPlace
  by_cases q1 : x < 0 <;> by_cases q2 : nI np ≤ x <;> simp [bd, gI, h2, zb, pu, inN, q1, q2]
theorem c_clothsOn {σ : MM} {nl np nc a : Nat} (hT : TC σ nl np nc) (h : ob a 4) (l : Int32) : FX4_clothsOn a l σ = some (btF (fun k => decide (σ.1 (a + 2) k = l)) nc, σ) := by
  obtain ⟨-, -, h3, -, -, h6⟩ := hT
  unfold FX4_clothsOn
  rw [sk0 h, sk2 h]
  refine (bd_it (fun k => (btF (fun k => decide (σ.1 (a + 2) k = l)) k, nI k)) nc rfl ?_ ?_ (by omega)).trans rfl
  · intro k hk
    have e1 := ev_aI (a := a + 2) (σ := σ) (show k < 6 by omega) (by decide)
    by_cases hq : σ.1 (a + 2) k = l <;> simp [bd, gI, h3, nle_n hk (by omega), e1, hq, btF, lt, pu, nI_1]
  · simp [bd, gI, h3, le_nn (show nc < 2 ^ 31 by omega), pu]
theorem c_hanging {σ : MM} {nl np nc a : Nat} (hT : TC σ nl np nc) (h : ob a 4) : FX4_hanging a σ = some (btF (fun k => decide (¬ σ.1 (a + 2) k = -1)) nc, σ) := by
  obtain ⟨-, -, h3, -, -, h6⟩ := hT
  unfold FX4_hanging
  rw [sk0 h, sk2 h]
  refine (bd_it (fun k => (btF (fun k => decide (¬ σ.1 (a + 2) k = -1)) k, nI k)) nc rfl ?_ ?_ (by omega)).trans rfl
  · intro k hk
    have e1 := ev_aI (a := a + 2) (σ := σ) (show k < 6 by omega) (by decide)
    by_cases hq : σ.1 (a + 2) k = -1 <;> simp [bd, gI, h3, nle_n hk (by omega), e1, hq, btF, lt, pu, nI_1]
  · simp [bd, gI, h3, le_nn (show nc < 2 ^ 31 by omega), pu]
theorem c_wetOnes {σ : MM} {nl np nc a : Nat} (hT : TC σ nl np nc) (h : ob a 4) : FX4_wetOnes a σ = some (btF (fun k => decide (¬ σ.1 (a + 1) k ≤ 0)) nc, σ) := by
  obtain ⟨-, -, h3, -, -, h6⟩ := hT
  unfold FX4_wetOnes
  rw [sk0 h, sk1 h]
  refine (bd_it (fun k => (btF (fun k => decide (¬ σ.1 (a + 1) k ≤ 0)) k, nI k)) nc rfl ?_ ?_ (by omega)).trans rfl
  · intro k hk
    have e1 := ev_aI (a := a + 1) (σ := σ) (show k < 6 by omega) (by decide)
    by_cases hq : σ.1 (a + 1) k ≤ 0 <;> simp [bd, gI, h3, nle_n hk (by omega), e1, hq, btF, lt, pu, nI_1]
  · simp [bd, gI, h3, le_nn (show nc < 2 ^ 31 by omega), pu]
theorem c_lies {σ : MM} {nl np nc a : Nat} (hT : TC σ nl np nc) (h : ob a 4) (x : Int32) : FX4_lies a x σ = some (inN x nc && decide (σ.1 (a + 2) x.toNatClampNeg = -1), σ) := by
  unfold FX4_lies
  rw [sk0 h, sk2 h, ev_bd (c_hasCloth hT x)]
  obtain ⟨-, -, h3, -, -, h6⟩ := hT
  by_cases q : inN x nc = true
  · obtain ⟨k, hk, rfl⟩ := inN_ex (by omega) q
    have e1 := ev_aI (a := a + 2) (σ := σ) (show k < 6 by omega) (by decide)
    rw [cl_n (by omega)]
    by_cases hq : σ.1 (a + 2) k = -1 <;> simp [bd, q, b2i, e1, hq, pu, zb]
  · simp [bd, q, b2i, pu, zb]
theorem c_hangs {σ : MM} {nl np nc a : Nat} (hT : TC σ nl np nc) (h : ob a 4) (x : Int32) : FX4_hangs a x σ = some (inN x nc && decide (¬ σ.1 (a + 2) x.toNatClampNeg = -1), σ) := by
  unfold FX4_hangs
  rw [sk0 h, sk2 h, ev_bd (c_hasCloth hT x)]
  obtain ⟨-, -, h3, -, -, h6⟩ := hT
  by_cases q : inN x nc = true
  · obtain ⟨k, hk, rfl⟩ := inN_ex (by omega) q
    have e1 := ev_aI (a := a + 2) (σ := σ) (show k < 6 by omega) (by decide)
    rw [cl_n (by omega)]
    by_cases hq : σ.1 (a + 2) k = -1 <;> simp [bd, q, b2i, e1, hq, pu, zb]
  · simp [bd, q, b2i, pu, zb]
/-! the model's -/
theorem m_lines {σ : MM} {nl np nc : Nat} (hT : TM σ nl np nc) : FX12_lines 249 σ = some (nI nl, σ) := by
  obtain ⟨h1, -⟩ := hT
  unfold FX12_lines
  rw [r249_10, ev_bd (show aI 255 80 (0 : Int32) σ = some (nI nl, σ) by rw [show (0 : Int32) = nI 0 from rfl, ev_aI (by decide) (by decide), h1])]
  rfl
theorem m_places {σ : MM} {nl np nc : Nat} (hT : TM σ nl np nc) : FX12_places 249 σ = some (nI np, σ) := by
  obtain ⟨-, h2, -⟩ := hT
  unfold FX12_places
  rw [r249_10, ev_bd (show aI 255 80 (1 : Int32) σ = some (nI np, σ) by rw [show (1 : Int32) = nI 1 from rfl, ev_aI (by decide) (by decide), h2])]
  rfl
theorem m_isCloth {σ : MM} {nl np nc : Nat} (hT : TM σ nl np nc) (x : Int32) : FX12_isCloth 249 x σ = some (inN x nc, σ) := by
  have h3 := m_cloths hT
  unfold FX12_isCloth
  by_cases q1 : x < 0 <;> by_cases q2 : nI nc ≤ x <;> simp [bd, h3, zb, pu, inN, q1, q2]
theorem m_isLine {σ : MM} {nl np nc : Nat} (hT : TM σ nl np nc) (x : Int32) : FX12_isLine 249 x σ = some (inN x nl, σ) := by
  have h3 := m_lines hT
  unfold FX12_isLine
  by_cases q1 : x < 0 <;> by_cases q2 : nI nl ≤ x <;> simp [bd, h3, zb, pu, inN, q1, q2]
theorem m_isPlace {σ : MM} {nl np nc : Nat} (hT : TM σ nl np nc) (x : Int32) : FX12_isPlace 249 x σ = some (inN x np, σ) := by
  have h3 := m_places hT
  unfold FX12_isPlace
  by_cases q1 : x < 0 <;> by_cases q2 : nI np ≤ x <;> simp [bd, h3, zb, pu, inN, q1, q2]
theorem m_clothOf {σ : MM} {l w : Nat} (hl : l < 6) (hw : w < 2) : FX12_clothOf 249 (nI l) (nI w) σ = some (σ.1 255 (18 + 2 * l + w), σ) := by
  unfold FX12_clothOf
  have e : (18 : Int32) + (2 : Int32) * nI l + nI w = nI (18 + 2 * l + w) := by
    rw [show (18 : Int32) = nI 18 from rfl, show (2 : Int32) = nI 2 from rfl, pk_mul, nI_add, nI_add]
  rw [r249_10]
  simp only [e]
  rw [ev_bd (ev_aI (by omega) (by decide))]
  rfl
theorem ixS (b o k : Nat) : nI b + nI o + nI k = nI (b + o + k) := by rw [nI_add, nI_add]
/-- a block of the model's state -/
def okB (b : Nat) : Prop := b + 42 ≤ 966
theorem m_freeOf {σ : MM} {nl np nc b l : Nat} (hT : TM σ nl np nc) (hb : okB b) (hl : l < 5) : FX12_freeOf 249 (nI b) (nI l) σ = some (fr (σ.1 255 (4 + 2 * l)) (fun k => σ.1 265 (b + 7 + k)) (fun k => σ.1 265 (b + 13 + k)) (nI l) nc, σ) := by
  have hc := m_cloths hT
  obtain ⟨-, -, h3, -, -, h6⟩ := hT
  unfold okB at hb
  unfold FX12_freeOf
  have e0 : FX12_lineOf 249 (nI l) (0 : Int32) σ = some (σ.1 255 (4 + 2 * l), σ) := m_lineOf (w := 0) hl (by decide)
  rw [r249_23, ev_bd e0]
  refine (bd_it (fun k => (fr (σ.1 255 (4 + 2 * l)) (fun k => σ.1 265 (b + 7 + k)) (fun k => σ.1 265 (b + 13 + k)) (nI l) k, nI k)) nc rfl ?_ ?_ (by omega)).trans rfl
  · intro k hk
    have i1 : nI b + (7 : Int32) + nI k = nI (b + 7 + k) := ixS b 7 k
    have i2 : nI b + (13 : Int32) + nI k = nI (b + 13 + k) := ixS b 13 k
    have e1 := ev_aI (a := 265) (n := 966) (σ := σ) (show b + 7 + k < 966 by omega) (by decide)
    have e2 := ev_aI (a := 265) (n := 966) (σ := σ) (show b + 13 + k < 966 by omega) (by decide)
    by_cases hq : σ.1 265 (b + 7 + k) = nI l <;> simp [bd, hc, nle_n hk (by omega), i1, i2, e1, e2, hq, fr, lt, pu, nI_1]
  · simp [bd, hc, le_nn (show nc < 2 ^ 31 by omega), pu]
theorem m_onLine {σ : MM} {nl np nc b : Nat} (hT : TM σ nl np nc) (hb : okB b) (l : Int32) : FX12_onLine 249 (nI b) l σ = some (btF (fun k => decide (σ.1 265 (b + 7 + k) = l)) nc, σ) := by
  have hc := m_cloths hT
  obtain ⟨-, -, h3, -, -, h6⟩ := hT
  unfold okB at hb
  unfold FX12_onLine
  rw [r249_23]
  refine (bd_it (fun k => (btF (fun k => decide (σ.1 265 (b + 7 + k) = l)) k, nI k)) nc rfl ?_ ?_ (by omega)).trans rfl
  · intro k hk
    have i1 : nI b + (7 : Int32) + nI k = nI (b + 7 + k) := ixS b 7 k
    have e1 := ev_aI (a := 265) (n := 966) (σ := σ) (show b + 7 + k < 966 by omega) (by decide)
    by_cases hq : σ.1 265 (b + 7 + k) = l <;> simp [bd, hc, nle_n hk (by omega), i1, e1, hq, btF, lt, pu, nI_1]
  · simp [bd, hc, le_nn (show nc < 2 ^ 31 by omega), pu]
theorem m_doesHang {σ : MM} {b k : Nat} (hb : okB b) (hk : k < 6) : FX12_doesHang 249 (nI b) (nI k) σ = some (decide (¬ σ.1 265 (b + 7 + k) < 0), σ) := by
  unfold okB at hb
  unfold FX12_doesHang
  have i1 : nI b + (7 : Int32) + nI k = nI (b + 7 + k) := ixS b 7 k
  have e1 := ev_aI (a := 265) (n := 966) (σ := σ) (show b + 7 + k < 966 by omega) (by decide)
  rw [r249_23]
  by_cases hq : σ.1 265 (b + 7 + k) < 0 <;> simp [bd, i1, e1, hq, pu, zb]
theorem m_isWet {σ : MM} {b k : Nat} (hb : okB b) (hk : k < 6) : FX12_isWet 249 (nI b) (nI k) σ = some (decide (¬ σ.1 265 (b + 1 + k) ≤ 0), σ) := by
  unfold okB at hb
  unfold FX12_isWet
  have i1 : nI b + (1 : Int32) + nI k = nI (b + 1 + k) := ixS b 1 k
  have e1 := ev_aI (a := 265) (n := 966) (σ := σ) (show b + 1 + k < 966 by omega) (by decide)
  rw [r249_23]
  by_cases hq : σ.1 265 (b + 1 + k) ≤ 0 <;> simp [bd, i1, e1, hq, pu, zb]
theorem m_hanging {σ : MM} {nl np nc b : Nat} (hT : TM σ nl np nc) (hb : okB b) : FX12_hanging 249 (nI b) σ = some (btF (fun k => decide (¬ σ.1 265 (b + 7 + k) < 0)) nc, σ) := by
  have hc := m_cloths hT
  obtain ⟨-, -, h3, -, -, h6⟩ := hT
  unfold FX12_hanging
  refine (bd_it (fun k => (btF (fun k => decide (¬ σ.1 265 (b + 7 + k) < 0)) k, nI k)) nc rfl ?_ ?_ (by omega)).trans rfl
  · intro k hk
    have e1 := m_doesHang (σ := σ) hb (show k < 6 by omega)
    by_cases hq : σ.1 265 (b + 7 + k) < 0 <;> simp [bd, hc, nle_n hk (by omega), e1, hq, btF, lt, pu, nI_1, b2i]
  · simp [bd, hc, le_nn (show nc < 2 ^ 31 by omega), pu]
