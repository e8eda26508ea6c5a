/-! ===== rainbows, quarrels ===== -/
def anF (p : Nat → Bool) : Nat → Bool
  | 0 => false
  | k + 1 => anF p k || p k
theorem an_t {p : Nat → Bool} {k : Nat} : ∀ {n : Nat}, k < n → p k = true → anF p n = true
  | 0, h, _ => by omega
  | n + 1, h, hp => by
    show (anF p n || p n) = true
    by_cases q : k = n
    · rw [← q, hp]; simp
    · rw [an_t (n := n) (by omega) hp]; rfl
def hwP (T : TW) (S : SK) (l : Int32) (sh : Bool) (c : Nat) : Bool := decide (S 1 c = l) && (decide (¬ S 0 c ≤ 0) && (decide (T.2 3 c = 1) == sh))
def hwS (T : TW) (S : SK) (l : Int32) (sh : Bool) : Bool := anF (hwP T S l sh) (T.1 2)
theorem ks_hasWet {T : TW} {S : SK} {σ : MM} (hT : CTn T σ) (hS : CSk T 38 S σ) (l : Int32) (sh : Bool) : FX4_hasWet 38 l (b2i sh) σ = some (hwS T S l sh, σ) := by
  have h6 := hT.1.2.2.2.2.2
  have h3 := hT.1.2.2.1
  have key : wp (FX4_hasWet 38 l (b2i sh)) σ (fun r τ => r = hwS T S l sh ∧ τ = σ) := by
    unfold FX4_hasWet
    rw [r38_0, r38_1, r38_2, r3_6]
    refine ws_it (fun k s τ => s = nI k ∧ τ = σ ∧ anF (hwP T S l sh) k = false) (T.1 2) (by omega) ⟨rfl, rfl, rfl⟩ ?_
    rintro k s τ hk ⟨rfl, rfl, hf⟩
    refine ws_gv h3 ?_
    by_cases hkn : k < T.1 2
    · rw [if_neg (nle_n hkn (by omega))]
      obtain ⟨e1, e2, -⟩ := hS.2 k hkn
      have nxt : hwP T S l sh k = false → wp (lt (nI k + (1 : Int32)) (fun y => pu (Sum.inl y)) : PP (Int32 ⊕ (Unit ⊕ Unit))) τ (fun r υ => (∃ a', r = .inl a' ∧ k < T.1 2 ∧ (a' = nI (k + 1) ∧ υ = τ ∧ anF (hwP T S l sh) (k + 1) = false)) ∨ (∃ b, r = .inr b ∧ wp ((Sum.elim (fun (v10 : Unit) => zb (0 : Int32)) (fun (v11 : Unit) => zb (1 : Int32))) b) υ (fun r υ => r = hwS T S l sh ∧ υ = τ))) := by
        intro hp
        rw [lt_eq]
        refine wp_pu (Or.inl ⟨_, rfl, hkn, nI_1 k, rfl, ?_⟩)
        show (anF (hwP T S l sh) k || hwP T S l sh k) = false
        rw [hf, hp]; rfl
      refine ws_a (by omega) (by decide) e2 ?_
      by_cases q1 : S 1 k = l
      · rw [if_pos q1]
        refine ws_a (by omega) (by decide) e1 ?_
        by_cases q2 : S 0 k ≤ 0
        · rw [if_pos q2]
          exact nxt (by simp [hwP, q2])
        · rw [if_neg q2]
          refine ws_a (by omega) (by decide) (hT.2.2.2.1 k hkn).1 ?_
          refine wp_eq (x := b2i (decide (T.2 3 k = 1))) (τ := τ) ?_ ?_
          · by_cases z : T.2 3 k = 1 <;> simp [z, pu, b2i]
          by_cases q3 : decide (T.2 3 k = 1) = sh
          · rw [if_pos (by rw [q3])]
            refine wp_pu (Or.inr ⟨_, rfl, ws_z1 ⟨?_, rfl⟩⟩)
            exact (an_t hkn (by simp [hwP, q1, q2, q3])).symm
          · rw [if_neg]
            · exact nxt (by simp only [hwP, q1, q2]; simp; exact q3)
            · intro z
              apply q3
              revert z
              cases decide (T.2 3 k = 1) <;> cases sh <;> decide
      · rw [if_neg q1]
        exact nxt (by simp [hwP, q1])
    · have : k = T.1 2 := by omega
      rw [if_pos (nI_le (by omega) (by omega))]
      refine wp_pu (Or.inr ⟨_, rfl, ws_z0 ⟨?_, rfl⟩⟩)
      unfold hwS
      rw [← this, hf]
  obtain ⟨r, τ, e, rfl, rfl⟩ := key
  exact e
theorem ms_hasWet {T : TW} {S : SK} {σ : MM} (hV : VTn T) (hT : MTn T σ) (hS : MSk T 0 S σ) (l : Int32) (sh : Bool) : FX12_hasWet 249 l (b2i sh) σ = some (hwS T S l sh, σ) := by
  have h6 := hT.1.2.2.2.2.2
  have hc := ms_cloths hT
  unfold FX12_hasWet
  rw [r249_23]
  refine (bd_it (r := b2i (hwS T S l sh)) (fun k => (b2i (anF (hwP T S l sh) k), nI k)) (T.1 2) rfl ?_ ?_ (by omega)).trans ?_
  · intro k hk
    obtain ⟨-, e2, -⟩ := hS.2 k hk
    have i2 : (7 : Int32) + nI k = nI (0 + 7 + k) := nI_add 7 k
    have g1 := ev_aI (a := 265) (n := 966) (σ := σ) (show 0 + 7 + k < 966 by omega) (by decide)
    rw [e2, ← i2] at g1
    have g2 : FX12_isWet 249 (0 : Int32) (nI k) σ = some (decide (¬ S 0 k ≤ 0), σ) := ms_isWet (b := 0) hV okB0 hS hk
    have g3 := ms_kind hV hT hk
    have ea : anF (hwP T S l sh) (k + 1) = (anF (hwP T S l sh) k || hwP T S l sh k) := rfl
    rw [ea]
    cases hf : anF (hwP T S l sh) k with
    | true => simp [bd, hc, nle_n hk (by omega), b2i, lt, pu, nI_1]
    | false =>
      by_cases q1 : S 1 k = l
      · by_cases q2 : S 0 k ≤ 0
        · simp [bd, hc, nle_n hk (by omega), b2i, lt, pu, nI_1, g1, g2, q1, q2, hwP]
        · by_cases q3 : T.2 3 k = 1 <;> cases sh <;> simp [bd, hc, nle_n hk (by omega), b2i, lt, pu, nI_1, g1, g2, g3, q1, q2, q3, hwP]
      · simp [bd, hc, nle_n hk (by omega), b2i, lt, pu, nI_1, g1, q1, hwP]
  · refine (ev_bd hc).trans ?_
    rw [if_pos (le_nn (by omega))]
    rfl
  · show zb (b2i (hwS T S l sh)) σ = _
    cases hwS T S l sh <;> rfl
def bwS (T : TW) (S : SK) (a b : Nat) : Bool := (hwS T S (nI a) true || hwS T S (nI a) false) && (hwS T S (nI b) true || hwS T S (nI b) false)
def rbS (T : TW) (S : SK) (a b : Nat) : Bool := (hwS T S (nI a) true && hwS T S (nI b) false) || (hwS T S (nI a) false && hwS T S (nI b) true)
def crP (T : TW) (S : SK) (r : Bool) (a b : Nat) : Bool := decide ((T.2 1 a >>> (nI b &&& 31)) &&& 1 = 1) && (bwS T S a b && (rbS T S a b == r))
theorem ks_bothWet {T : TW} {S : SK} {σ : MM} (hT : CTn T σ) (hS : CSk T 38 S σ) (a b : Nat) : FX4_bothWet 38 (nI a) (nI b) σ = some (bwS T S a b, σ) := by
  have e1 : FX4_hasWet 38 (nI a) (1 : Int32) σ = _ := ks_hasWet hT hS (nI a) true
  have e2 : FX4_hasWet 38 (nI a) (0 : Int32) σ = _ := ks_hasWet hT hS (nI a) false
  have e3 : FX4_hasWet 38 (nI b) (1 : Int32) σ = _ := ks_hasWet hT hS (nI b) true
  have e4 : FX4_hasWet 38 (nI b) (0 : Int32) σ = _ := ks_hasWet hT hS (nI b) false
  unfold FX4_bothWet bwS
  generalize hwS T S (nI a) true = x1 at e1
  generalize hwS T S (nI a) false = x2 at e2
  generalize hwS T S (nI b) true = x3 at e3
  generalize hwS T S (nI b) false = x4 at e4
  cases x1 <;> cases x2 <;> cases x3 <;> cases x4 <;> simp [bd, jn, e1, e2, e3, e4, b2i, pu, zb]
theorem ks_isRainbow {T : TW} {S : SK} {σ : MM} (hT : CTn T σ) (hS : CSk T 38 S σ) (a b : Nat) : FX4_isRainbow 38 (nI a) (nI b) σ = some (rbS T S a b, σ) := by
  have e1 : FX4_hasWet 38 (nI a) (1 : Int32) σ = _ := ks_hasWet hT hS (nI a) true
  have e2 : FX4_hasWet 38 (nI a) (0 : Int32) σ = _ := ks_hasWet hT hS (nI a) false
  have e3 : FX4_hasWet 38 (nI b) (1 : Int32) σ = _ := ks_hasWet hT hS (nI b) true
  have e4 : FX4_hasWet 38 (nI b) (0 : Int32) σ = _ := ks_hasWet hT hS (nI b) false
  unfold FX4_isRainbow rbS
  generalize hwS T S (nI a) true = x1 at e1
  generalize hwS T S (nI a) false = x2 at e2
  generalize hwS T S (nI b) true = x3 at e3
  generalize hwS T S (nI b) false = x4 at e4
  cases x1 <;> cases x2 <;> cases x3 <;> cases x4 <;> simp [bd, jn, e1, e2, e3, e4, b2i, pu, zb]
theorem ms_isRainbow {T : TW} {S : SK} {σ : MM} (hV : VTn T) (hT : MTn T σ) (hS : MSk T 0 S σ) (a b : Nat) : FX12_isRainbow 249 (nI a) (nI b) σ = some (rbS T S a b, σ) := by
  have e1 : FX12_hasWet 249 (nI a) (1 : Int32) σ = _ := ms_hasWet hV hT hS (nI a) true
  have e2 : FX12_hasWet 249 (nI a) (0 : Int32) σ = _ := ms_hasWet hV hT hS (nI a) false
  have e3 : FX12_hasWet 249 (nI b) (1 : Int32) σ = _ := ms_hasWet hV hT hS (nI b) true
  have e4 : FX12_hasWet 249 (nI b) (0 : Int32) σ = _ := ms_hasWet hV hT hS (nI b) false
  unfold FX12_isRainbow rbS
  generalize hwS T S (nI a) true = x1 at e1
  generalize hwS T S (nI a) false = x2 at e2
  generalize hwS T S (nI b) true = x3 at e3
  generalize hwS T S (nI b) false = x4 at e4
  cases x1 <;> cases x2 <;> cases x3 <;> cases x4 <;> simp [bd, jn, e1, e2, e3, e4, b2i, pu, zb]
theorem inF_s {p : Nat → Nat → Bool} {a m : Nat} {c : Int32} : inF p a c (m + 1) = if p a (a + 1 + m) = true then inF p a c m + 1 else inF p a c m := rfl
theorem c_cross {T : TW} {S : SK} {σ : MM} (hV : VTn T) (hT : CTn T σ) (hS : CSk T 38 S σ) (r : Bool) : FX11_crossings 0 (b2i r) σ = some (ouF (crP T S r) (T.1 0) (T.1 0), σ) := by
  have v5 := hV.1.1
  have h1 := hT.1.1
  unfold FX11_crossings
  rw [r0_1, r0_5, r3_4]
  have hg : gI 3 9 σ = some (nI (T.1 0), σ) := by unfold gI; rw [h1]
  refine (bd_it (fun k => (ouF (crP T S r) (T.1 0) k, nI k)) (T.1 0) rfl ?_ ?_ (by omega)).trans rfl
  · intro a ha
    refine (ev_bd hg).trans ?_
    rw [if_neg (nle_n ha (by omega)), lt_eq]
    refine (bd_it (r := inF (crP T S r) a (ouF (crP T S r) (T.1 0) a) (T.1 0 - (a + 1))) (fun m => (inF (crP T S r) a (ouF (crP T S r) (T.1 0) a) m, nI (a + 1 + m))) (T.1 0 - (a + 1)) (by rw [nI_1]; rfl) ?_ ?_ (by omega)).trans ?_
    · intro m hm
      refine (ev_bd hg).trans ?_
      rw [if_neg (nle_n (by omega) (by omega))]
      have ga := ev_aI (a := 8) (n := 5) (σ := σ) (show a < 5 by omega) (by decide)
      rw [(hT.2.1 a ha).2] at ga
      refine (ev_bd ga).trans ?_
      have eb := ks_bothWet hT hS a (a + 1 + m)
      have er := ks_isRainbow hT hS a (a + 1 + m)
      rw [inF_s]
      have ec : crP T S r a (a + 1 + m) = (decide ((T.2 1 a >>> (nI (a + 1 + m) &&& 31)) &&& 1 = 1) && (bwS T S a (a + 1 + m) && (rbS T S a (a + 1 + m) == r))) := rfl
      rw [ec]
      generalize bwS T S a (a + 1 + m) = x1 at eb
      generalize rbS T S a (a + 1 + m) = x2 at er
      have en : nI (a + 1 + m) + 1 = nI (a + 1 + (m + 1)) := nI_1 _
      by_cases z : (T.2 1 a >>> (nI (a + 1 + m) &&& 31)) &&& 1 = 1
      · cases x1 <;> cases x2 <;> cases r <;> simp [bd, z, eb, er, b2i, lt, pu, en]
      · simp [bd, z, lt, pu, en]
    · refine (ev_bd hg).trans ?_
      rw [if_pos (nI_le (by omega) (by omega))]
      rfl
    · show some _ = some _
      rw [nI_1]
      rfl
  · refine (ev_bd hg).trans ?_
    rw [if_pos (le_nn (by omega))]
    rfl
theorem m_cross {T : TW} {S : SK} {σ : MM} (hV : VTn T) (hT : MTn T σ) (hS : MSk T 0 S σ) (r : Bool) : FX12_crossings 249 (b2i r) σ = some (ouF (crP T S r) (T.1 0) (T.1 0), σ) := by
  have v5 := hV.1.1
  have hc := ms_lines hT
  unfold FX12_crossings
  refine (bd_it (fun k => (ouF (crP T S r) (T.1 0) k, nI k)) (T.1 0) rfl ?_ ?_ (by omega)).trans rfl
  · intro a ha
    refine (ev_bd hc).trans ?_
    rw [if_neg (nle_n ha (by omega)), lt_eq]
    refine (bd_it (r := inF (crP T S r) a (ouF (crP T S r) (T.1 0) a) (T.1 0 - (a + 1))) (fun m => (inF (crP T S r) a (ouF (crP T S r) (T.1 0) a) m, nI (a + 1 + m))) (T.1 0 - (a + 1)) (by rw [nI_1]; rfl) ?_ ?_ (by omega)).trans ?_
    · intro m hm
      refine (ev_bd hc).trans ?_
      rw [if_neg (nle_n (by omega) (by omega))]
      have e1 : FX12_hasWet 249 (nI a) (1 : Int32) σ = _ := ms_hasWet hV hT hS (nI a) true
      have e2 : FX12_hasWet 249 (nI a) (0 : Int32) σ = _ := ms_hasWet hV hT hS (nI a) false
      have e3 : FX12_hasWet 249 (nI (a + 1 + m)) (1 : Int32) σ = _ := ms_hasWet hV hT hS (nI (a + 1 + m)) true
      have e4 : FX12_hasWet 249 (nI (a + 1 + m)) (0 : Int32) σ = _ := ms_hasWet hV hT hS (nI (a + 1 + m)) false
      have er := ms_isRainbow hV hT hS a (a + 1 + m)
      have el : FX12_lineOf 249 (nI a) (1 : Int32) σ = some (T.2 1 a, σ) := by
        have := m_lineOf (σ := σ) (l := a) (w := 1) (by omega) (by decide)
        rw [show 4 + 2 * a + 1 = 5 + 2 * a by omega, (hT.2.1 a ha).2] at this
        exact this
      rw [inF_s]
      have ec : crP T S r a (a + 1 + m) = (decide ((T.2 1 a >>> (nI (a + 1 + m) &&& 31)) &&& 1 = 1) && (((hwS T S (nI a) true || hwS T S (nI a) false) && (hwS T S (nI (a + 1 + m)) true || hwS T S (nI (a + 1 + m)) false)) && (rbS T S a (a + 1 + m) == r))) := rfl
      rw [ec]
      refine (ev_bd e1).trans ?_
      refine (ev_bd (x := b2i ((hwS T S (nI a) true || hwS T S (nI a) false) && (hwS T S (nI (a + 1 + m)) true || hwS T S (nI (a + 1 + m)) false))) (σ1 := σ) ?_).trans ?_
      · show jn _ _ σ = _
        generalize hwS T S (nI a) true = x1
        generalize hwS T S (nI a) false = x2 at e2
        generalize hwS T S (nI (a + 1 + m)) true = x3 at e3
        generalize hwS T S (nI (a + 1 + m)) false = x4 at e4
        cases x1 <;> cases x2 <;> cases x3 <;> cases x4 <;> simp [bd, jn, e2, e3, e4, b2i, pu]
      generalize ((hwS T S (nI a) true || hwS T S (nI a) false) && (hwS T S (nI (a + 1 + m)) true || hwS T S (nI (a + 1 + m)) false)) = x1
      refine (ev_bd el).trans ?_
      generalize rbS T S a (a + 1 + m) = x2 at er
      have en : nI (a + 1 + m) + 1 = nI (a + 1 + (m + 1)) := nI_1 _
      by_cases z : (T.2 1 a >>> (nI (a + 1 + m) &&& 31)) &&& 1 = 1
      · cases x1 <;> cases x2 <;> cases r <;> simp [bd, z, er, b2i, lt, pu, en]
      · simp [bd, z, lt, pu, en]
    · refine (ev_bd hc).trans ?_
      rw [if_pos (nI_le (by omega) (by omega))]
      rfl
    · show some _ = some _
      rw [nI_1]
      rfl
  · refine (ev_bd hc).trans ?_
    rw [if_pos (le_nn (by omega))]
    rfl
theorem ok_21 {σ : MM} (h : Inv σ) (q : Nat → Int32) : okC (fun chk => TL_21 chk q) σ := by
  obtain ⟨A, hV, hC, hM⟩ := h
  refine okC_of (r := ouF (crP A.1 A.2.1.1 true) (A.1.1 0) (A.1.1 0)) (eq := fun x y => x = y) rfl hV hV hM (cq_s hC ?_) (fun τ hM => ?_)
  · unfold FX11_rainbows
    exact (ev_bd (c_cross hV.1 hC.1 hC.2.1.1 true)).trans rfl
  · unfold FX12_rainbows
    exact mq_s hV hM (fun τ hM => (ev_bd (m_cross hV.1 hM.1 hM.2.1.1 true)).trans rfl)
theorem ok_22 {σ : MM} (h : Inv σ) (q : Nat → Int32) : okC (fun chk => TL_22 chk q) σ := by
  obtain ⟨A, hV, hC, hM⟩ := h
  refine okC_of (r := ouF (crP A.1 A.2.1.1 false) (A.1.1 0) (A.1.1 0)) (eq := fun x y => x = y) rfl hV hV hM (cq_s hC ?_) (fun τ hM => ?_)
  · unfold FX11_quarrels
    exact (ev_bd (c_cross hV.1 hC.1 hC.2.1.1 false)).trans rfl
  · unfold FX12_quarrels
    exact mq_s hV hM (fun τ hM => (ev_bd (m_cross hV.1 hM.1 hM.2.1.1 false)).trans rfl)
