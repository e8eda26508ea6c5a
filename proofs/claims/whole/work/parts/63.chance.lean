/-! ===== chance ===== -/
def wyN (T : TW) (c o : Nat) : Nat → SK → Nat
  | 0, S => if S 0 c ≤ 0 then 1 else 0
  | h + 1, S => o * wyN T c o h (paS T S true) + (10 - o) * wyN T c o h (paS T S false)
theorem wy_le {T : TW} {c o : Nat} (ho : o ≤ 10) : ∀ (h : Nat) (S : SK), wyN T c o h S ≤ 10 ^ h
  | 0, S => by
    show (if _ then 1 else 0) ≤ _
    split <;> simp
  | h + 1, S => by
    have h1 := wy_le (T := T) (c := c) ho h (paS T S true)
    have h2 := wy_le (T := T) (c := c) ho h (paS T S false)
    have a1 := Nat.mul_le_mul_left o h1
    have a2 := Nat.mul_le_mul_left (10 - o) h2
    have e : o * 10 ^ h + (10 - o) * 10 ^ h = 10 ^ (h + 1) := by
      rw [← Nat.add_mul, Nat.pow_succ, Nat.mul_comm]
      congr 1
      omega
    show o * wyN T c o h (paS T S true) + (10 - o) * wyN T c o h (paS T S false) ≤ _
    omega
theorem rf213 : ∀ i, i < 7 → rf 213 i = 214 + 5 * i := by decide +kernel
theorem ob213 : ∀ i, i < 7 → (decide (214 + 5 * i < 270) && decide (sh (214 + 5 * i) = (4, 0))) = true := by decide +kernel
theorem c_ways {T : TW} {c h o : Nat} (hV : VTn T) (hc : c < T.1 2) (hh : h ≤ 6) (ho : o ≤ 10) : ∀ (r k : Nat), r < k → ∀ (g : Nat) (S : SK) (τ : MM), g + r = h → VSk T S → CTn T τ → CSk T (214 + 5 * g) S τ → wp (FX11_waysToDry k 0 (nI c) (nI g) (nI h) (nI o)) τ (fun x υ => x = nI (wyN T c o r S) ∧ eqr (fun b _ => b = 14 ∨ (219 + 5 * g ≤ b ∧ b ≤ 248)) τ υ) := by
  have v6 := hV.1.2.2.1
  intro r
  induction r with
  | zero =>
    intro k hk g S τ hg hv hT hS
    cases k with
    | zero => omega
    | succ k =>
      show wp (GX11_waysToDry (FX11_waysToDry k) 0 (nI c) (nI g) (nI h) (nI o)) τ _
      unfold GX11_waysToDry
      rw [jn_eq, r0_11, if_pos (nI_le (by omega) (by omega))]
      refine wp_eq (show gd (ib (nI g) 7 = true) τ = some ((), τ) by unfold gd; rw [if_pos (ib_n (by omega) (by decide))]) ?_
      rw [cl_n (by omega), rf213 g (by omega), sk1 (ob_of (ob213 g (by omega)))]
      refine ws_a (by omega) (by decide) (hS.2 c hc).1 ?_
      have ew := wet0 hv hc
      by_cases z : S 0 c = 0
      · rw [if_pos z]
        refine wp_eq (show pu _ τ = some (_, τ) from rfl) (wp_pu ⟨?_, eqr_rf⟩)
        show (1 : Int32) = nI (if S 0 c ≤ 0 then 1 else 0)
        rw [if_pos (by rw [← ew]; exact z)]
        rfl
      · rw [if_neg z]
        refine wp_eq (show pu _ τ = some (_, τ) from rfl) (wp_pu ⟨?_, eqr_rf⟩)
        show (0 : Int32) = nI (if S 0 c ≤ 0 then 1 else 0)
        rw [if_neg (by rw [← ew]; exact z)]
        rfl
  | succ r ih =>
    intro k hk g S τ hg hv hT hS
    cases k with
    | zero => omega
    | succ k =>
      show wp (GX11_waysToDry (FX11_waysToDry k) 0 (nI c) (nI g) (nI h) (nI o)) τ _
      unfold GX11_waysToDry
      rw [jn_eq, r0_11, if_neg (nle_n (by omega) (by omega)), nI_1, if_pos (show nI (g + 1) < 7 from nIlt (b := 7) (by omega) (by decide))]
      have o1 := ob_of (ob213 g (by omega))
      have o2 := ob_of (ob213 (g + 1) (by omega))
      have go : ∀ (υ : MM), CTn T υ → CSk T (214 + 5 * g) S υ → ∀ (dr : Bool) (f : Int32 → Int32), wp (bd (gd (ib (nI (g + 1)) 7 = true)) (fun (_ : Unit) => bd (gd (ib (nI g) 7 = true)) (fun (_ : Unit) => bd (FX4_copyFrom (rf 213 (nI (g + 1)).toNatClampNeg) (rf 213 (nI g).toNatClampNeg)) (fun (_ : Unit) => bd (gd (ib (nI (g + 1)) 7 = true)) (fun (_ : Unit) => bd (FX4_passHour (rf 213 (nI (g + 1)).toNatClampNeg) (b2i dr)) (fun x6 => bd (FX11_waysToDry k 0 (nI c) (nI (g + 1)) (nI h) (nI o)) (fun x7 => lt (f x7) (fun y8 => pu y8)))))))) υ (fun x ω => x = f (nI (wyN T c o r (paS T S dr))) ∧ eqr (fun b _ => b = 14 ∨ (219 + 5 * g ≤ b ∧ b ≤ 248)) υ ω) := by
        intro υ hT hS dr f
        have gg : ∀ (i : Nat) (ω : MM), i < 7 → gd (ib (nI i) 7 = true) ω = some ((), ω) := fun i ω hi => by unfold gd; rw [if_pos (ib_n hi (by decide))]
        refine wp_eq (gg (g + 1) υ (by omega)) (wp_eq (gg g υ (by omega)) ?_)
        rw [cl_n (by omega), cl_n (by omega), rf213 g (by omega), rf213 (g + 1) (by omega)]
        obtain ⟨υ1, e1, g1, g2⟩ := ks_copy v6 o2 o1 (by omega) hS
        refine wp_eq e1 (wp_eq (gg (g + 1) υ1 (by omega)) ?_)
        have hT1 : CTn T υ1 := CTn_r g2 (fun b j _ _ => by omega) hT
        refine wp_bd (ks_pass hV hT1 o2 g1 dr) ?_
        rintro r2 υ2 ⟨-, g3, g4⟩
        have hT2 : CTn T υ2 := CTn_r g4 (fun b j _ _ => by omega) hT1
        refine wp_bd (ih k (by omega) (g + 1) (paS T S dr) υ2 (by omega) (VSk_pa hv) hT2 g3) ?_
        rintro x υ3 ⟨rfl, g5⟩
        rw [lt_eq]
        exact wp_pu ⟨rfl, eqr_tr (eqr_mono g2 (fun b j z => by omega)) (eqr_tr (eqr_mono g4 (fun b j z => by omega)) (eqr_mono g5 (fun b j z => by omega)))⟩
      have es : wyN T c o (r + 1) S = o * wyN T c o r (paS T S true) + (10 - o) * wyN T c o r (paS T S false) := rfl
      refine wp_bd (Q := fun x υ => x = nI (o * wyN T c o r (paS T S true)) ∧ eqr (fun b _ => b = 14 ∨ (219 + 5 * g ≤ b ∧ b ≤ 248)) τ υ) ?_ ?_
      · by_cases z : o = 0
        · rw [if_pos (show nI o ≤ 0 by rw [z]; decide)]
          refine wp_pu ⟨?_, eqr_rf⟩
          rw [z, Nat.zero_mul]
          rfl
        · rw [if_neg (show ¬ nI o ≤ 0 from nI_nle (by omega) (by omega))]
          refine wp_mono (go τ hT hS true (fun x => (0 : Int32) + nI o * x)) (fun x υ q => ⟨q.1.trans ?_, q.2⟩)
          show (0 : Int32) + nI o * nI _ = _
          rw [pk_mul, show (0 : Int32) = nI 0 from rfl, nI_add, Nat.zero_add]
      · rintro x υ ⟨rfl, hq⟩
        have hT1 : CTn T υ := CTn_r hq (fun b j _ _ => by omega) hT
        have hS1 : CSk T (214 + 5 * g) S υ := CSk_r hq (fun j => by omega) (by omega) hS
        refine wp_bd (Q := fun x υ2 => x = nI (wyN T c o (r + 1) S) ∧ eqr (fun b _ => b = 14 ∨ (219 + 5 * g ≤ b ∧ b ≤ 248)) τ υ2) ?_ (fun x υ2 q => wp_pu q)
        by_cases z : o = 10
        · rw [if_pos (show (10 : Int32) ≤ nI o by rw [z]; decide)]
          refine wp_pu ⟨?_, hq⟩
          rw [es, z, Nat.sub_self, Nat.zero_mul, Nat.add_zero]
        · rw [if_neg (show ¬ (10 : Int32) ≤ nI o from nle_n (b := 10) (by omega) (by decide))]
          refine wp_mono (go υ hT1 hS1 false (fun x => nI (o * wyN T c o r (paS T S true)) + ((10 : Int32) - nI o) * x)) (fun x υ2 q => ⟨q.1.trans ?_, eqr_tr hq q.2⟩)
          show nI _ + ((10 : Int32) - nI o) * nI _ = _
          rw [show (10 : Int32) - nI o = nI (10 - o) from pk_sub (a := 10) ho, pk_mul, nI_add, es]
/-! the sum over all ways -/
def fpN (T : TW) (c o : Nat) : Nat → SK → Nat → Nat
  | 0, S, _ => if S 0 c ≤ 0 then 1 else 0
  | h + 1, S, s => (if s % 2 = 1 then o else 10 - o) * fpN T c o h (paS T S (decide (s % 2 = 1))) (s / 2)
def smN (g : Nat → Nat) : Nat → Nat
  | 0 => 0
  | n + 1 => smN g n + g n
theorem sm_pair (g : Nat → Nat) : ∀ n, smN g (2 * n) = smN (fun t => g (2 * t) + g (2 * t + 1)) n
  | 0 => rfl
  | n + 1 => by
    show smN g (2 * n + 1 + 1) = smN (fun t => g (2 * t) + g (2 * t + 1)) n + (g (2 * n) + g (2 * n + 1))
    show smN g (2 * n) + g (2 * n) + g (2 * n + 1) = _
    rw [sm_pair g n]
    omega
theorem sm_cong {f g : Nat → Nat} (h : ∀ t, f t = g t) : ∀ n, smN f n = smN g n
  | 0 => rfl
  | n + 1 => by
    show smN f n + f n = smN g n + g n
    rw [sm_cong h n, h n]
theorem sm_lin (a b : Nat) (f g : Nat → Nat) : ∀ n, smN (fun t => a * f t + b * g t) n = a * smN f n + b * smN g n
  | 0 => by simp [smN]
  | n + 1 => by
    show smN (fun t => a * f t + b * g t) n + (a * f n + b * g n) = a * (smN f n + f n) + b * (smN g n + g n)
    rw [sm_lin a b f g n, Nat.mul_add, Nat.mul_add]
    omega
theorem sm_wy {T : TW} {c o : Nat} : ∀ (h : Nat) (S : SK), smN (fpN T c o h S) (2 ^ h) = wyN T c o h S
  | 0, S => by
    show 0 + fpN T c o 0 S 0 = _
    rw [Nat.zero_add]
    rfl
  | h + 1, S => by
    rw [show 2 ^ (h + 1) = 2 * 2 ^ h by rw [Nat.pow_succ, Nat.mul_comm], sm_pair]
    rw [sm_cong (g := fun t => (10 - o) * fpN T c o h (paS T S false) t + o * fpN T c o h (paS T S true) t) (fun t => ?_), sm_lin, sm_wy h, sm_wy h]
    · show _ = o * wyN T c o h (paS T S true) + (10 - o) * wyN T c o h (paS T S false)
      omega
    · have e1 : (2 * t) % 2 = 0 := by omega
      have e2 : (2 * t + 1) % 2 = 1 := by omega
      have e3 : (2 * t) / 2 = t := by omega
      have e4 : (2 * t + 1) / 2 = t := by omega
      show (if (2 * t) % 2 = 1 then o else 10 - o) * fpN T c o h (paS T S (decide ((2 * t) % 2 = 1))) ((2 * t) / 2) + (if (2 * t + 1) % 2 = 1 then o else 10 - o) * fpN T c o h (paS T S (decide ((2 * t + 1) % 2 = 1))) ((2 * t + 1) / 2) = _
      rw [e1, e2, e3, e4]
      rfl
theorem bit6 : ∀ s, s < 64 → ∀ n, n < 6 → (nI s >>> (nI n &&& 31)) &&& 1 = nI ((s / 2 ^ n) % 2) := by decide +kernel
def chB (A : AB) (x y z : Int32) : Bool := haS A.1 A.2.1.1 x && ((decide (¬ y < 1) && decide (¬ 6 < y)) && (decide (¬ z < 0) && decide (¬ 10 < z)))
def chR (A : AB) (x y z : Int32) : Int32 := if chB A x y z = true then nI (wyN A.1 x.toNatClampNeg z.toNatClampNeg y.toNatClampNeg A.2.1.1 * 10 ^ (6 - y.toNatClampNeg)) else -1
theorem ch_b {A : AB} {x y z : Int32} (h : chB A x y z = true) : haS A.1 A.2.1.1 x = true ∧ (decide (¬ y < 1) && decide (¬ 6 < y)) = true ∧ (decide (¬ z < 0) && decide (¬ 10 < z)) = true := by
  unfold chB at h
  rw [Bool.and_eq_true, Bool.and_eq_true (decide (¬ y < 1) && decide (¬ 6 < y))] at h
  exact h
theorem w16 {y : Int32} (h : (decide (¬ y < 1) && decide (¬ 6 < y)) = true) : ∃ n, 1 ≤ n ∧ n ≤ 6 ∧ y = nI n := by
  simp only [Bool.and_eq_true, decide_eq_true_eq] at h
  obtain ⟨n, hn, e⟩ := nI_of2 (n := 6) rfl (fun q => h.1 (Int32.lt_trans q (by decide))) (Int32.not_lt.mp h.2)
  refine ⟨n, ?_, hn, e⟩
  apply Classical.byContradiction
  intro z
  have : n = 0 := by omega
  apply h.1
  rw [e, this]
  decide
theorem c_chance {A : AB} {σ : MM} (hV : VA A) (hA : CA A σ) (x y z : Int32) : wp (FX11_chance 0 x y z) σ (fun r τ => r = chR A x y z ∧ eqr (fun b _ => b = 14 ∨ (214 ≤ b ∧ b ≤ 248)) σ τ) := by
  have v6 := hV.1.1.2.2.1
  unfold FX11_chance chR
  rw [r0_5, r0_11]
  have no : ¬ chB A x y z = true → wp (pu (-1 : Int32)) σ (fun r τ => r = (if chB A x y z = true then nI (wyN A.1 x.toNatClampNeg z.toNatClampNeg y.toNatClampNeg A.2.1.1 * 10 ^ (6 - y.toNatClampNeg)) else -1) ∧ eqr (fun b _ => b = 14 ∨ (214 ≤ b ∧ b ≤ 248)) σ τ) := by
    intro q
    rw [if_neg q]
    exact wp_pu ⟨rfl, eqr_rf⟩
  refine wp_eq (ks_hangs hA.1 o38 hA.2.1.1 x) ?_
  by_cases q : haS A.1 A.2.1.1 x = true
  · rw [if_neg (bt q)]
    by_cases a1 : y < 1
    · rw [if_pos a1]; exact no (fun h => by have := (ch_b h).2.1; simp [a1] at this)
    rw [if_neg a1]
    by_cases a2 : 6 < y
    · rw [if_pos a2]; exact no (fun h => by have := (ch_b h).2.1; simp [a2] at this)
    rw [if_neg a2]
    by_cases a3 : z < 0
    · rw [if_pos a3]; exact no (fun h => by have := (ch_b h).2.2; simp [a3] at this)
    rw [if_neg a3]
    by_cases a4 : z ≤ 10
    · rw [if_pos a4]
      have w1 : (decide (¬ y < 1) && decide (¬ 6 < y)) = true := by simp [a1, a2]
      have w2 : (decide (¬ z < 0) && decide (¬ 10 < z)) = true := by simp [a3, Int32.not_lt.mpr a4]
      have hb : chB A x y z = true := by unfold chB; rw [q, w1, w2]; rfl
      rw [if_pos hb]
      obtain ⟨n, hn1, hn6, rfl⟩ := w16 w1
      obtain ⟨o, ho, rfl⟩ := wi_ex (n := 10) rfl w2
      obtain ⟨k1, k2, k3⟩ := ha_ok hV.1 q
      generalize x.toNatClampNeg = c at k1 k2 k3
      subst k2
      rw [cl_n (by omega), cl_n (by omega)]
      refine wp_eq (show gd (ib (0 : Int32) 7 = true) σ = some ((), σ) from rfl) ?_
      rw [show (0 : Int32).toNatClampNeg = 0 from rfl, rf213 0 (by decide)]
      obtain ⟨τ, e, g1, g2⟩ := ks_copy v6 (ob_of (ob213 0 (by decide))) o38 (by omega) hA.2.1.1
      refine wp_eq e ?_
      refine wp_bd (c_ways hV.1 k1 hn6 ho n 10 (by omega) 0 A.2.1.1 τ (by omega) hV.2.1.1 (CTn_r g2 (fun b j _ _ => by omega) hA.1) g1) ?_
      rintro r υ ⟨rfl, g3⟩
      have hq : eqr (fun b _ => b = 14 ∨ (214 ≤ b ∧ b ≤ 248)) σ υ := eqr_tr (eqr_mono g2 (fun b j z => by omega)) (eqr_mono g3 (fun b j z => by omega))
      refine wp_eq (x := nI (wyN A.1 c o n A.2.1.1 * 10 ^ (6 - n))) (τ := υ) ?_ (wp_pu ⟨rfl, hq⟩)
      have key := it_fun (body := fun (s5 : Int32 × Int32) => (if (6 : Int32) ≤ s5.2 then pu (Sum.inr s5.1) else lt (s5.1 * (10 : Int32)) (fun y6 => lt (s5.2 + (1 : Int32)) (fun y7 => pu (Sum.inl (y6, y7)))) : PP ((Int32 × Int32) ⊕ (Int32)))) (σ := υ) (r := nI (wyN A.1 c o n A.2.1.1 * 10 ^ (6 - n))) (fun m => (nI (wyN A.1 c o n A.2.1.1 * 10 ^ m), nI (n + m))) (6 - n) (fun m hm => ?_) ?_ (fu_lt (by omega : 6 - n < 10000))
      · rw [Nat.pow_zero, Nat.mul_one, Nat.add_zero] at key
        exact key
      · rw [if_neg (show ¬ (6 : Int32) ≤ nI (n + m) from nle_n (b := 6) (by omega) (by decide)), lt_eq, lt_eq]
        show some _ = some _
        rw [nI_1, show (10 : Int32) = nI 10 from rfl, pk_mul, Nat.pow_succ, Nat.mul_assoc]
        rfl
      · rw [if_pos (show (6 : Int32) ≤ nI (n + (6 - n)) by rw [show n + (6 - n) = 6 by omega]; decide)]
        rfl
    · rw [if_neg a4]
      exact no (fun h => by
        have := (ch_b h).2.2
        simp only [Bool.and_eq_true, decide_eq_true_eq] at this
        exact a4 (Int32.not_lt.mp this.2))
  · rw [if_pos (bf q)]
    exact no (fun h => q (ch_b h).1)
