/-! ===== trials: later, dry, clears ===== -/
def pnS (T : TW) (S : SK) : Nat → SK
  | 0 => S
  | n + 1 => paS T (pnS T S n) true
theorem VSk_pn {T : TW} {S : SK} (hv : VSk T S) : ∀ n, VSk T (pnS T S n)
  | 0 => hv
  | n + 1 => VSk_pa (VSk_pn hv n)
def RtC (b : Nat) (_ : Nat) : Prop := b = 14 ∨ (42 ≤ b ∧ b ≤ 47)
def RtM (b j : Nat) : Prop := b = 263 ∨ b = 264 ∨ (b = 265 ∧ 882 ≤ j)
theorem RtC_sc (b j : Nat) (h : RtC b j) : b < 249 ∧ scC b j := by unfold RtC at h; unfold scC; omega
theorem RtM_sc (b j : Nat) (h : RtM b j) : 249 ≤ b ∧ scM b j := by unfold RtM at h; unfold scM; omega
/-- a sky at the class's trial, all else as it was -/
def TrC (T : TW) (σ : MM) (S : SK) (τ : MM) : Prop := CSk T 43 S τ ∧ eqr RtC σ τ
def TrM (T : TW) (σ : MM) (S : SK) (τ : MM) : Prop := MSk T 882 S τ ∧ eqr RtM σ τ
theorem tc_T {T : TW} {σ τ : MM} (h : eqr RtC σ τ) (hT : CTn T σ) : CTn T τ := CTn_r h (fun b j _ _ q => by unfold RtC at q; omega) hT
theorem tc_S {T : TW} {S : SK} {σ τ : MM} (h : eqr RtC σ τ) (hS : CSk T 38 S σ) : CSk T 38 S τ := CSk_r h (fun j => ⟨fun q => by unfold RtC at q; omega, fun q => by unfold RtC at q; omega, fun q => by unfold RtC at q; omega⟩) (fun q => by unfold RtC at q; omega) hS
theorem tm_T {T : TW} {σ τ : MM} (h : eqr RtM σ τ) (hT : MTn T σ) : MTn T τ := MTn_r h (fun b j _ _ q => by unfold RtM at q; omega) hT
theorem tm_S {T : TW} {S : SK} {σ τ : MM} (h6 : T.1 2 ≤ 6) (h : eqr RtM σ τ) (hS : MSk T 0 S σ) : MSk T 0 S τ := MSk_r h h6 (fun j _ _ q => by unfold RtM at q; omega) hS
theorem okBt : okB 882 := by unfold okB; decide
theorem kt_copy {T : TW} {S : SK} {σ τ : MM} (h6 : T.1 2 ≤ 6) (h : eqr RtC σ τ) (hS : CSk T 38 S σ) : ∃ υ, FX4_copyFrom 43 38 τ = some ((), υ) ∧ TrC T σ S υ := by
  obtain ⟨υ, e, h1, h2⟩ := ks_copy h6 o43 o38 (by omega) (tc_S h hS)
  exact ⟨υ, e, h1, eqr_tr h (eqr_mono h2 (fun b j q => by unfold RtC; omega))⟩
theorem kt_pass {T : TW} {S : SK} {σ τ : MM} (hV : VTn T) (hT : CTn T σ) (h : TrC T σ S τ) (dr : Bool) : wp (FX4_passHour 43 (b2i dr)) τ (fun r υ => r = ddS T S dr ∧ TrC T σ (paS T S dr) υ) :=
  wp_mono (ks_pass hV (tc_T h.2 hT) o43 h.1 dr) (fun r υ q => ⟨q.1, q.2.1, eqr_tr h.2 (eqr_mono q.2.2 (fun b j q => by unfold RtC; omega))⟩)
theorem TrC_42 {T : TW} {S : SK} {σ τ υ : MM} (h : TrC T σ S τ) (hq : eqr (fun b _ => b = 47) τ υ) : TrC T σ S υ := ⟨CSk_r hq (fun j => by omega) (by omega) h.1, eqr_tr h.2 (eqr_mono hq (fun b j q => by unfold RtC; omega))⟩
theorem kt_weather {T : TW} {S : SK} {σ τ : MM} {p : Nat} (hV : VTn T) (hT : CTn T σ) (h : TrC T σ S τ) (hp : p < T.1 1) : ∃ υ, FX4_weather 43 (nI p) 0 τ = some (weS T S p, υ) ∧ TrC T σ S υ := by
  obtain ⟨υ, e, q1, -⟩ := ks_weather hV (tc_T h.2 hT) o43 h.1 hp 0
  exact ⟨υ, e, TrC_42 h q1⟩
theorem kt_now {T : TW} {S S0 : SK} {σ τ : MM} {p : Nat} (hV : VTn T) (hT : CTn T σ) (hS : CSk T 38 S0 σ) (h : TrC T σ S τ) (hp : p < T.1 1) (out : Int32) : ∃ υ, FX4_weather 38 (nI p) out τ = some ((wxS T S0 p out).1, υ) ∧ TrC T σ S υ := by
  obtain ⟨υ, e, q1, -⟩ := ks_weather hV (tc_T h.2 hT) o38 (tc_S h.2 hS) hp out
  exact ⟨υ, e, CSk_r q1 (fun j => by omega) (by omega) h.1, eqr_tr h.2 (eqr_mono q1 (fun b j q => by unfold RtC; omega))⟩
theorem mt_tries {T : TW} {S : SK} {σ τ : MM} (h6 : T.1 2 ≤ 6) (h : eqr RtM σ τ) (hS : MSk T 0 S σ) : wp (FX12_triesNow 249) τ (fun _ υ => TrM T σ S υ) := by
  unfold FX12_triesNow
  refine wp_bd (ms_copyS (f := 0) (t := 882) h6 (by decide) (by decide) (by omega) (tm_S h6 h hS)) (fun _ υ q => wp_pu ⟨q.1, eqr_tr h (eqr_mono q.2 (fun b j q => by unfold RtM; omega))⟩)
theorem mt_pass {T : TW} {S : SK} {σ τ : MM} (hV : VTn T) (hT : MTn T σ) (hv : VSk T S) (h : TrM T σ S τ) (dr : Bool) : wp (FX12_passes 249 (882 : Int32) (b2i dr)) τ (fun r υ => r = ddS T S dr ∧ TrM T σ (paS T S dr) υ) :=
  wp_mono (ms_pass (b := 882) hV (tm_T h.2 hT) okBt h.1 hv dr) (fun r υ q => ⟨q.1, q.2.1, eqr_tr h.2 (eqr_mono q.2.2 (fun b j q => by unfold RtM; omega))⟩)
theorem mt_weather {T : TW} {S : SK} {σ τ : MM} {p : Nat} (hV : VTn T) (hT : MTn T σ) (hv : VSk T S) (h : TrM T σ S τ) (hp : p < T.1 1) : FX12_weatherOf 249 (882 : Int32) (nI p) τ = some (weS T S p, τ) := ms_weather (b := 882) hV (tm_T h.2 hT) okBt h.1 hv hp
theorem mt_now {T : TW} {S S0 : SK} {σ τ : MM} {p : Nat} (hV : VTn T) (hT : MTn T σ) (hS : MSk T 0 S0 σ) (hv : VSk T S0) (h : TrM T σ S τ) (hp : p < T.1 1) : FX12_weatherOf 249 (0 : Int32) (nI p) τ = some (weS T S0 p, τ) := ms_weather (b := 0) hV (tm_T h.2 hT) okB0 (tm_S hV.1.2.2.1 h.2 hS) hv hp
theorem mt_runs {T : TW} {S : SK} {σ τ : MM} {n : Nat} (hV : VTn T) (hT : MTn T σ) (hv : VSk T S) (hn : n ≤ 100) (h : TrM T σ S τ) : wp (FX12_runs 249 (nI n)) τ (fun _ υ => TrM T σ (pnS T S n) υ) := by
  unfold FX12_runs
  refine ws_it (fun k s υ => s = nI k ∧ TrM T σ (pnS T S k) υ) n (by omega) ⟨rfl, h⟩ ?_
  rintro k s υ hk ⟨rfl, hq⟩
  by_cases hkn : k < n
  · rw [if_neg (nle_n hkn (by omega))]
    refine wp_bd (mt_pass hV hT (VSk_pn hv k) hq true) ?_
    rintro r ω ⟨-, h2⟩
    rw [lt_eq]
    exact wp_pu (Or.inl ⟨_, rfl, hkn, nI_1 k, h2⟩)
  · have : k = n := by omega
    subst this
    rw [if_pos (le_nn (by omega))]
    exact wp_pu (Or.inr ⟨_, rfl, wp_pu hq⟩)
/-! later -/
def ltR (A : AB) (x y : Int32) : Int32 := if inN x (A.1.1 1) = true then (if (decide (¬ y < 0) && decide (¬ 40 < y)) = true then weS A.1 (pnS A.1 A.2.1.1 y.toNatClampNeg) x.toNatClampNeg else -2) else -2
theorem c_later {A : AB} {σ : MM} (hV : VA A) (hA : CA A σ) (x y : Int32) : wp (FX11_later 0 x y) σ (fun r τ => r = ltR A x y ∧ eqr RtC σ τ) := by
  have v4 := hV.1.1.2.1
  have v6 := hV.1.1.2.2.1
  unfold FX11_later ltR
  rw [r0_1, r0_5, r0_6]
  refine wp_eq (c_hasPlace hA.1.1 x) ?_
  by_cases q : inN x (A.1.1 1) = true
  · rw [if_neg (bt q), if_pos q]
    by_cases w : (decide (¬ y < 0) && decide (¬ 40 < y)) = true
    · rw [if_pos w]
      have w2 := w
      simp only [Bool.and_eq_true, decide_eq_true_eq] at w2
      rw [if_neg w2.1, if_pos (Int32.not_lt.mp w2.2)]
      obtain ⟨n, hn, rfl⟩ := wi_ex (n := 40) rfl w
      obtain ⟨p, hp, rfl⟩ := inN_ex (by omega) q
      rw [cl_n (by omega), cl_n (by omega)]
      obtain ⟨τ, e, h0⟩ := kt_copy v6 eqr_rf hA.2.1.1
      refine wp_eq e ?_
      refine ws_it (fun k s υ => s = nI k ∧ TrC A.1 σ (pnS A.1 A.2.1.1 k) υ) n (by omega) ⟨rfl, h0⟩ ?_
      rintro k s υ hk ⟨rfl, hq⟩
      by_cases hkn : k < n
      · rw [if_neg (nle_n hkn (by omega))]
        refine wp_bd (kt_pass hV.1 hA.1 hq true) ?_
        rintro r ω ⟨-, h2⟩
        rw [lt_eq]
        exact wp_pu (Or.inl ⟨_, rfl, hkn, nI_1 k, h2⟩)
      · have : k = n := by omega
        subst this
        rw [if_pos (le_nn (by omega))]
        refine wp_pu (Or.inr ⟨_, rfl, ?_⟩)
        obtain ⟨ω, e2, h2⟩ := kt_weather hV.1 hA.1 hq hp
        exact wp_eq e2 (wp_pu ⟨rfl, h2.2⟩)
    · rw [if_neg w]
      by_cases w1 : y < 0
      · rw [if_pos w1]; exact wp_pu ⟨rfl, eqr_rf⟩
      · rw [if_neg w1]
        by_cases w2 : y ≤ 40
        · exact absurd (by simp [w1, Int32.not_lt.mpr w2]) w
        · rw [if_neg w2]; exact wp_pu ⟨rfl, eqr_rf⟩
  · rw [if_pos (bf q), if_neg q]
    exact wp_pu ⟨rfl, eqr_rf⟩
theorem m_later {A : AB} {σ : MM} (hV : VA A) (hA : MA A σ) (x y : Int32) : wp (FX12_later 249 x y) σ (fun r τ => r = ltR A x y ∧ MA A τ ∧ ofM σ τ) := by
  have v4 := hV.1.1.2.1
  have v6 := hV.1.1.2.2.1
  unfold FX12_later
  refine mq_w hV hA (R := RtM) (fun σ hA => ?_) RtM_sc
  unfold ltR
  refine wp_eq (m_isPlace hA.1.1 x) ?_
  by_cases q : inN x (A.1.1 1) = true
  · rw [if_neg (bt q), if_pos q]
    refine wp_eq (ms_within y 0 40 σ) ?_
    by_cases w : (decide (¬ y < 0) && decide (¬ 40 < y)) = true
    · rw [if_pos w, if_neg (bt w)]
      obtain ⟨n, hn, rfl⟩ := wi_ex (n := 40) rfl w
      obtain ⟨p, hp, rfl⟩ := inN_ex (by omega) q
      rw [cl_n (by omega), cl_n (by omega)]
      refine wp_bd (mt_tries v6 eqr_rf hA.2.1.1) ?_
      intro _ τ h0
      refine wp_bd (mt_runs hV.1 hA.1 hV.2.1.1 (by omega) h0) ?_
      intro _ υ h1
      exact wp_eq (mt_weather hV.1 hA.1 (VSk_pn hV.2.1.1 n) h1 hp) (wp_pu ⟨rfl, h1.2⟩)
    · rw [if_neg w, if_pos (bf w)]; exact wp_pu ⟨rfl, eqr_rf⟩
  · rw [if_pos (bf q), if_neg q]
    exact wp_pu ⟨rfl, eqr_rf⟩
theorem ok_12 {σ : MM} (h : Inv σ) (q : Nat → Int32) : okC (fun chk => TL_12 chk q) σ := by
  obtain ⟨A, hV, hC, hM⟩ := h
  exact okC_of (eq := fun x y => x = y) rfl hV hV hM (cq_w hC (c_later hV hC (q 1) (q 2)) RtC_sc) (fun τ hM => m_later hV hM (q 1) (q 2))
/-! dry, clears: the first hour at which it is so -/
def fsF (p : Nat → Bool) : Nat → Nat → Int32
  | _, 0 => -1
  | n, f + 1 => if p n = true then nI n else fsF p (n + 1) f
theorem wet0 {T : TW} {S : SK} (hv : VSk T S) {c : Nat} (hc : c < T.1 2) : (S 0 c = 0) = (S 0 c ≤ 0) := by
  obtain ⟨w, hw, e⟩ := (hv c hc).1
  rw [e]
  apply propext
  rw [nle0 w (by omega)]
  constructor
  · intro h; exact (nI_eq (b := 0) (by omega) (by decide)).mp h
  · intro h; rw [h]; rfl
def dyP (T : TW) (S : SK) (c n : Nat) : Bool := decide (pnS T S n 0 c ≤ 0)
/-- the hour at which a cloth is dry, out of the first N -/
def dyN (T : TW) (S : SK) (N c : Nat) : Int32 := if S 1 c = -1 then -1 else fsF (dyP T S c) 0 N
def drR (A : AB) (x : Int32) : Int32 := if inN x (A.1.1 2) = true then dyN A.1 A.2.1.1 41 x.toNatClampNeg else -1
theorem c_dry {A : AB} {σ : MM} (hV : VA A) (hA : CA A σ) (x : Int32) : wp (FX11_dry 0 x) σ (fun r τ => r = drR A x ∧ eqr RtC σ τ) := by
  have v6 := hV.1.1.2.2.1
  unfold FX11_dry drR dyN
  rw [r0_5, r0_6, r43_1]
  refine wp_eq (ks_hangs hA.1 o38 hA.2.1.1 x) ?_
  by_cases q : haS A.1 A.2.1.1 x = true
  · obtain ⟨k1, k2, k3⟩ := ha_ok hV.1 q
    have q1 : inN x (A.1.1 2) = true := by unfold haS at q; rw [Bool.and_eq_true] at q; exact q.1
    rw [if_neg (bt q), if_pos q1, if_neg k3]
    generalize x.toNatClampNeg = c at k1 k2 k3
    subst k2
    obtain ⟨τ, e, h0⟩ := kt_copy v6 eqr_rf hA.2.1.1
    refine wp_eq e ?_
    refine ws_it (fun k s υ => s = nI k ∧ TrC A.1 σ (pnS A.1 A.2.1.1 k) υ ∧ fsF (dyP A.1 A.2.1.1 c) 0 41 = fsF (dyP A.1 A.2.1.1 c) k (41 - k)) 41 (by omega) ⟨rfl, h0, rfl⟩ ?_
    rintro k s υ hk ⟨rfl, hq, hf⟩
    by_cases hkn : k < 41
    · rw [if_neg (show ¬ (40 : Int32) < nI k from fun z => by have := (nI_ltI (a := 40) (by decide) (by omega)).mp z; omega)]
      refine ws_a (by omega) (by decide) (hq.1.2 c k1).1 ?_
      rw [show 41 - k = (41 - (k + 1)) + 1 by omega] at hf
      have ew := wet0 (VSk_pn (S := A.2.1.1) hV.2.1.1 k) k1
      by_cases z : pnS A.1 A.2.1.1 k 0 c = 0
      · rw [if_pos z]
        refine wp_pu (Or.inr ⟨_, rfl, wp_pu ⟨?_, hq.2⟩⟩)
        rw [hf]
        show _ = if dyP A.1 A.2.1.1 c k = true then _ else _
        rw [if_pos (by unfold dyP; rw [decide_eq_true_eq, ← ew]; exact z)]
      · rw [if_neg z]
        refine wp_bd (kt_pass hV.1 hA.1 hq true) ?_
        rintro r ω ⟨-, h2⟩
        rw [lt_eq]
        refine wp_pu (Or.inl ⟨_, rfl, hkn, nI_1 k, h2, ?_⟩)
        rw [hf]
        show (if dyP A.1 A.2.1.1 c k = true then _ else _) = _
        rw [if_neg (by unfold dyP; rw [decide_eq_true_eq, ← ew]; exact z)]
    · have : k = 41 := by omega
      subst this
      rw [if_pos (by decide)]
      exact wp_pu (Or.inr ⟨_, rfl, wp_pu ⟨by rw [hf]; rfl, hq.2⟩⟩)
  · rw [if_pos (bf q)]
    refine wp_pu ⟨?_, eqr_rf⟩
    by_cases q1 : inN x (A.1.1 2) = true
    · rw [if_pos q1, if_pos]
      unfold haS at q
      rw [q1, Bool.true_and, decide_eq_true_eq, Classical.not_not] at q
      exact q
    · rw [if_neg q1]
theorem mt_hang {T : TW} {S S0 : SK} {σ τ : MM} {c : Nat} (hV : VTn T) (hS : MSk T 0 S0 σ) (hv : VSk T S0) (h : TrM T σ S τ) (hc : c < T.1 2) : FX12_doesHang 249 (0 : Int32) (nI c) τ = some (decide (¬ S0 1 c = -1), τ) := ms_doesHang (b := 0) hV okB0 (tm_S hV.1.2.2.1 h.2 hS) hv hc
theorem m_dryOf {A : AB} {σ τ : MM} (hV : VA A) (hA : MA A σ) (h : eqr RtM σ τ) {c : Nat} (hc : c < A.1.1 2) : wp (FX12_dryOf 249 (nI c)) τ (fun r υ => r = dyN A.1 A.2.1.1 41 c ∧ eqr RtM σ υ) := by
  have v6 := hV.1.1.2.2.1
  unfold FX12_dryOf dyN
  refine wp_bd (mt_tries v6 h hA.2.1.1) ?_
  intro _ τ h0
  refine ws_it (fun k s υ => s = nI k ∧ TrM A.1 σ (pnS A.1 A.2.1.1 k) υ ∧ fsF (dyP A.1 A.2.1.1 c) 0 41 = fsF (dyP A.1 A.2.1.1 c) k (41 - k)) 41 (by omega) ⟨rfl, h0, rfl⟩ ?_
  rintro k s υ hk ⟨rfl, hq, hf⟩
  have eh := mt_hang hV.1 hA.2.1.1 hV.2.1.1 hq hc
  by_cases hkn : k < 41
  · rw [if_neg (show ¬ (40 : Int32) < nI k from fun z => by have := (nI_ltI (a := 40) (by decide) (by omega)).mp z; omega)]
    refine wp_eq eh ?_
    by_cases g : A.2.1.1 1 c = -1
    · rw [if_pos (by simp [g, b2i]), if_pos g]
      exact wp_pu (Or.inr ⟨_, rfl, wp_pu ⟨rfl, hq.2⟩⟩)
    · rw [if_neg (by simp [g, b2i]), if_neg g]
      have ew : FX12_isWet 249 (882 : Int32) (nI c) υ = some (decide (¬ pnS A.1 A.2.1.1 k 0 c ≤ 0), υ) := ms_isWet (b := 882) hV.1 okBt hq.1 hc
      refine wp_eq ew ?_
      rw [show 41 - k = (41 - (k + 1)) + 1 by omega] at hf
      by_cases z : pnS A.1 A.2.1.1 k 0 c ≤ 0
      · rw [if_pos (by simp [z, b2i])]
        refine wp_pu (Or.inr ⟨_, rfl, wp_pu ⟨?_, hq.2⟩⟩)
        rw [hf]
        show _ = if dyP A.1 A.2.1.1 c k = true then _ else _
        rw [if_pos (by unfold dyP; rw [decide_eq_true_eq]; exact z)]
      · rw [if_neg (by simp [z, b2i])]
        refine wp_bd (mt_pass hV.1 hA.1 (VSk_pn hV.2.1.1 k) hq true) ?_
        rintro r ω ⟨-, h2⟩
        rw [lt_eq]
        refine wp_pu (Or.inl ⟨_, rfl, hkn, nI_1 k, h2, ?_⟩)
        rw [hf]
        show (if dyP A.1 A.2.1.1 c k = true then _ else _) = _
        rw [if_neg (by unfold dyP; rw [decide_eq_true_eq]; exact z)]
  · have : k = 41 := by omega
    subst this
    rw [if_pos (by decide)]
    refine wp_pu (Or.inr ⟨_, rfl, wp_pu ⟨?_, hq.2⟩⟩)
    rw [hf]
    by_cases g : A.2.1.1 1 c = -1
    · rw [if_pos g]
    · rw [if_neg g]; rfl
theorem m_dry {A : AB} {σ : MM} (hV : VA A) (hA : MA A σ) (x : Int32) : wp (FX12_dry 249 x) σ (fun r τ => r = drR A x ∧ MA A τ ∧ ofM σ τ) := by
  have v6 := hV.1.1.2.2.1
  unfold FX12_dry
  refine mq_w hV hA (R := RtM) (fun σ hA => ?_) RtM_sc
  unfold drR
  refine wp_eq (m_isCloth hA.1.1 x) ?_
  by_cases q : inN x (A.1.1 2) = true
  · rw [if_neg (bt q), if_pos q]
    obtain ⟨c, hc, rfl⟩ := inN_ex (by omega) q
    rw [cl_n (by omega)]
    refine bd_asw (wp_bd (m_dryOf hV hA eqr_rf hc) ?_)
    rintro r υ ⟨rfl, hq⟩
    exact wp_eq (show pu _ υ = some (_, υ) from rfl) (wp_pu ⟨rfl, hq⟩)
  · rw [if_pos (bf q), if_neg q]
    exact wp_eq (show pu _ σ = some (_, σ) from rfl) (wp_pu ⟨rfl, eqr_rf⟩)
theorem ok_13 {σ : MM} (h : Inv σ) (q : Nat → Int32) : okC (fun chk => TL_13 chk q) σ := by
  obtain ⟨A, hV, hC, hM⟩ := h
  exact okC_of (eq := fun x y => x = y) rfl hV hV hM (cq_w hC (c_dry hV hC (q 1)) RtC_sc) (fun τ hM => m_dry hV hM (q 1))
def ceP (T : TW) (S : SK) (p n : Nat) : Bool := decide (weS T (pnS T S n) p = -1)
def ceR (A : AB) (x : Int32) : Int32 := if inN x (A.1.1 1) = true then fsF (ceP A.1 A.2.1.1 x.toNatClampNeg) 0 41 else -1
theorem c_clears {A : AB} {σ : MM} (hV : VA A) (hA : CA A σ) (x : Int32) : wp (FX11_clears 0 x) σ (fun r τ => r = ceR A x ∧ eqr RtC σ τ) := by
  have v4 := hV.1.1.2.1
  have v6 := hV.1.1.2.2.1
  unfold FX11_clears ceR
  rw [r0_1, r0_5, r0_6]
  refine wp_eq (c_hasPlace hA.1.1 x) ?_
  by_cases q : inN x (A.1.1 1) = true
  · rw [if_neg (bt q), if_pos q]
    obtain ⟨c, hc, rfl⟩ := inN_ex (by omega) q
    rw [cl_n (by omega)]
    obtain ⟨τ, e, h0⟩ := kt_copy v6 eqr_rf hA.2.1.1
    refine wp_eq e ?_
    refine ws_it (fun k s υ => s = nI k ∧ TrC A.1 σ (pnS A.1 A.2.1.1 k) υ ∧ fsF (ceP A.1 A.2.1.1 c) 0 41 = fsF (ceP A.1 A.2.1.1 c) k (41 - k)) 41 (by omega) ⟨rfl, h0, rfl⟩ ?_
    rintro k s υ hk ⟨rfl, hq, hf⟩
    by_cases hkn : k < 41
    · rw [if_neg (show ¬ (40 : Int32) < nI k from fun z => by have := (nI_ltI (a := 40) (by decide) (by omega)).mp z; omega)]
      obtain ⟨ω, e2, h2⟩ := kt_weather hV.1 hA.1 hq hc
      refine wp_eq e2 ?_
      rw [show 41 - k = (41 - (k + 1)) + 1 by omega] at hf
      by_cases z : weS A.1 (pnS A.1 A.2.1.1 k) c = -1
      · rw [if_pos z]
        refine wp_pu (Or.inr ⟨_, rfl, wp_pu ⟨?_, h2.2⟩⟩)
        rw [hf]
        show _ = if ceP A.1 A.2.1.1 c k = true then _ else _
        rw [if_pos (by unfold ceP; rw [decide_eq_true_eq]; exact z)]
      · rw [if_neg z]
        refine wp_bd (kt_pass hV.1 hA.1 h2 true) ?_
        rintro r ω ⟨-, h2⟩
        rw [lt_eq]
        refine wp_pu (Or.inl ⟨_, rfl, hkn, nI_1 k, h2, ?_⟩)
        rw [hf]
        show (if ceP A.1 A.2.1.1 c k = true then _ else _) = _
        rw [if_neg (by unfold ceP; rw [decide_eq_true_eq]; exact z)]
    · have : k = 41 := by omega
      subst this
      rw [if_pos (by decide)]
      exact wp_pu (Or.inr ⟨_, rfl, wp_pu ⟨by rw [hf]; rfl, hq.2⟩⟩)
  · rw [if_pos (bf q), if_neg q]
    exact wp_pu ⟨rfl, eqr_rf⟩
theorem m_clears {A : AB} {σ : MM} (hV : VA A) (hA : MA A σ) (x : Int32) : wp (FX12_clears 249 x) σ (fun r τ => r = ceR A x ∧ MA A τ ∧ ofM σ τ) := by
  have v4 := hV.1.1.2.1
  have v6 := hV.1.1.2.2.1
  unfold FX12_clears
  refine mq_w hV hA (R := RtM) (fun σ hA => ?_) RtM_sc
  unfold ceR
  refine wp_bd (mt_tries v6 eqr_rf hA.2.1.1) ?_
  intro _ τ h0
  by_cases q : inN x (A.1.1 1) = true
  · rw [if_pos q]
    obtain ⟨c, hc, rfl⟩ := inN_ex (by omega) q
    rw [cl_n (by omega)]
    refine ws_it (fun k s υ => s = nI k ∧ TrM A.1 σ (pnS A.1 A.2.1.1 k) υ ∧ fsF (ceP A.1 A.2.1.1 c) 0 41 = fsF (ceP A.1 A.2.1.1 c) k (41 - k)) 41 (by omega) ⟨rfl, h0, rfl⟩ ?_
    rintro k s υ hk ⟨rfl, hq, hf⟩
    by_cases hkn : k < 41
    · rw [if_neg (show ¬ (40 : Int32) < nI k from fun z => by have := (nI_ltI (a := 40) (by decide) (by omega)).mp z; omega)]
      refine wp_eq (m_isPlace (tm_T hq.2 hA.1).1 (nI c)) ?_
      rw [if_neg (bt q)]
      refine wp_eq (mt_weather hV.1 hA.1 (VSk_pn hV.2.1.1 k) hq hc) ?_
      rw [show 41 - k = (41 - (k + 1)) + 1 by omega] at hf
      rcases we_ex A.1 (pnS A.1 A.2.1.1 k) c with z | ⟨t, ht, z⟩
      · rw [z, if_neg (by decide)]
        refine wp_pu (Or.inr ⟨_, rfl, wp_pu ⟨?_, hq.2⟩⟩)
        rw [hf]
        show _ = if ceP A.1 A.2.1.1 c k = true then _ else _
        rw [if_pos (by unfold ceP; rw [decide_eq_true_eq]; exact z)]
      · rw [z, if_pos (nI_pos' (by omega))]
        refine wp_bd (mt_pass hV.1 hA.1 (VSk_pn hV.2.1.1 k) hq true) ?_
        rintro r ω ⟨-, h2⟩
        rw [lt_eq]
        refine wp_pu (Or.inl ⟨_, rfl, hkn, nI_1 k, h2, ?_⟩)
        rw [hf]
        show (if ceP A.1 A.2.1.1 c k = true then _ else _) = _
        rw [if_neg (by unfold ceP; rw [decide_eq_true_eq, z]; exact nn1 ht)]
    · have : k = 41 := by omega
      subst this
      rw [if_pos (by decide)]
      exact wp_pu (Or.inr ⟨_, rfl, wp_pu ⟨by rw [hf]; rfl, hq.2⟩⟩)
  · rw [if_neg q]
    refine ws_it (fun k s υ => s = nI k ∧ υ = τ) 0 (by omega) ⟨rfl, rfl⟩ ?_
    rintro k s υ hk ⟨rfl, rfl⟩
    have : k = 0 := by omega
    subst this
    rw [if_neg (by decide)]
    refine wp_eq (m_isPlace (tm_T h0.2 hA.1).1 x) ?_
    rw [if_pos (bf q)]
    exact wp_pu (Or.inr ⟨_, rfl, wp_pu ⟨rfl, h0.2⟩⟩)
theorem ok_14 {σ : MM} (h : Inv σ) (q : Nat → Int32) : okC (fun chk => TL_14 chk q) σ := by
  obtain ⟨A, hV, hC, hM⟩ := h
  exact okC_of (eq := fun x y => x = y) rfl hV hV hM (cq_w hC (c_clears hV hC (q 1)) RtC_sc) (fun τ hM => m_clears hV hM (q 1))
