/-! ===== last ===== -/
theorem bs_first {f : Nat → Int32} {M m0 : Int32} {p : Nat → Bool} (hm : m0 < M) : ∀ n, (∀ c, c < n → p c = true → f c = M) → (∀ c, c < n → p c = false → f c < M) → ((∀ c, c < n → p c = false) ∧ (bsF f m0 n).2 < M) ∨ ∃ c, c < n ∧ p c = true ∧ (∀ j, j < c → p j = false) ∧ bsF f m0 n = (nI c, M)
  | 0, _, _ => Or.inl ⟨fun c hc => by omega, hm⟩
  | n + 1, h1, h2 => by
    have eb : bsF f m0 (n + 1) = if f n ≤ (bsF f m0 n).2 then bsF f m0 n else (nI n, f n) := rfl
    rcases bs_first hm n (fun c hc => h1 c (by omega)) (fun c hc => h2 c (by omega)) with ⟨k1, k2⟩ | ⟨c, k1, k2, k3, k4⟩
    · cases hp : p n with
      | true =>
        right
        refine ⟨n, by omega, hp, k1, ?_⟩
        rw [eb, h1 n (by omega) hp, if_neg (Int32.not_le.mpr k2)]
      | false =>
        left
        refine ⟨fun c hc => ?_, ?_⟩
        · by_cases q : c = n
          · rw [q]; exact hp
          · exact k1 c (by omega)
        · rw [eb]
          by_cases q : f n ≤ (bsF f m0 n).2
          · rw [if_pos q]; exact k2
          · rw [if_neg q]; exact h2 n (by omega) hp
    · right
      refine ⟨c, by omega, k2, k3, ?_⟩
      rw [eb, k4, if_pos]
      cases hp : p n with
      | true => rw [h1 n (by omega) hp]; exact Int32.le_refl M
      | false => exact Int32.le_of_lt (h2 n (by omega) hp)
theorem bs_cong {f g : Nat → Int32} {m0 : Int32} : ∀ {n : Nat}, (∀ c, c < n → f c = g c) → bsF f m0 n = bsF g m0 n
  | 0, _ => rfl
  | n + 1, h => by
    show (if f n ≤ (bsF f m0 n).2 then bsF f m0 n else (nI n, f n)) = (if g n ≤ (bsF g m0 n).2 then bsF g m0 n else (nI n, g n))
    rw [bs_cong (fun c hc => h c (by omega)), h n (by omega)]
theorem bs_none {m0 : Int32} {f : Nat → Int32} : ∀ {n : Nat}, (∀ c, c < n → f c = m0) → bsF f m0 n = (-1, m0)
  | 0, _ => rfl
  | n + 1, h => by
    show (if f n ≤ (bsF f m0 n).2 then bsF f m0 n else (nI n, f n)) = _
    rw [bs_none (fun c hc => h c (by omega)), h n (by omega)]
    exact if_pos (Int32.le_refl m0)
theorem pn_1 {T : TW} {S : SK} {c : Nat} : ∀ n, pnS T S n 1 c = S 1 c
  | 0 => rfl
  | n + 1 => pn_1 (T := T) (S := S) (c := c) n
theorem pn_0 {T : TW} {S : SK} {c n : Nat} : pnS T S (n + 1) 0 c = nwS T (pnS T S n) c := rfl
theorem dy_s {T : TW} {S : SK} {c n : Nat} (h : dyP T S c n = true) : dyP T S c (n + 1) = true := by
  unfold dyP at h ⊢
  rw [decide_eq_true_eq] at h ⊢
  rw [pn_0]
  unfold nwS
  by_cases q : pnS T S n 1 c = -1
  · rw [if_pos q]; exact h
  · rw [if_neg q, if_pos h]; exact h
theorem dy_m {T : TW} {S : SK} {c n : Nat} : ∀ {m : Nat}, n ≤ m → dyP T S c n = true → dyP T S c m = true
  | 0, h1, h => by
    have : n = 0 := by omega
    rw [← this]; exact h
  | m + 1, h1, h => by
    by_cases q : n = m + 1
    · rw [← q]; exact h
    · exact dy_s (dy_m (m := m) (by omega) h)
theorem dd_dy {T : TW} {S : SK} (hv : VSk T S) {c k : Nat} (hc : c < T.1 2) : ddP T (pnS T S k) true c = (decide (¬ S 1 c = -1) && (!dyP T S c k && dyP T S c (k + 1))) := by
  have e := wet0 (VSk_pn hv (k + 1)) hc
  rw [pn_0] at e
  unfold ddP dyP
  rw [pn_1, pn_0]
  simp only [e]
  by_cases q1 : S 1 c = -1
  · simp [q1]
  · by_cases q2 : pnS T S k 0 c ≤ 0 <;> simp [q1, q2]
def lsP (T : TW) (S : SK) (c : Nat) : Bool := decide (¬ S 1 c = -1) && !decide (¬ S 0 c ≤ 0)
def lsV (T : TW) (S : SK) : Nat → Int32
  | 0 => btF (lsP T S) (T.1 2)
  | k + 1 => if ddS T (pnS T S k) true = 0 then lsV T S k else ddS T (pnS T S k) true
def lsA (T : TW) (S : SK) (k : Nat) : Int32 := if lsV T S k = 0 then -1 else ntI (lsV T S k)
theorem nIlt {a b : Nat} (h : a < b) (hb : b < 2 ^ 31) : nI a < nI b := (nI_ltI (by omega) hb).mpr h
theorem m1lt {a : Nat} (h : a < 2 ^ 31) : (-1 : Int32) < nI a := by
  have h1 : 0 ≤ nI a := nI_pos' h
  apply Int32.lt_iff_toInt_lt.mpr
  have h2 := Int32.le_iff_toInt_le.mp h1
  have e1 : (-1 : Int32).toInt = -1 := rfl
  have e2 : (0 : Int32).toInt = 0 := rfl
  omega
theorem ls_eq {T : TW} {S : SK} (h6 : T.1 2 ≤ 6) (hv : VSk T S) : ∀ k, k < 1000 → lsA T S k = (bsF (dyN T S (k + 1)) (-1) (T.1 2)).1
  | 0, _ => by
    show (if btF (lsP T S) (T.1 2) = 0 then -1 else ntI (btF (lsP T S) (T.1 2))) = _
    rw [nt_fs _ h6]
    have f1 : ∀ c, lsP T S c = true → dyN T S 1 c = nI 0 := fun c hp => by
      unfold lsP at hp
      simp at hp
      unfold dyN
      rw [if_neg hp.1]
      show (if dyP T S c 0 = true then nI 0 else -1) = _
      rw [if_pos (by unfold dyP; rw [decide_eq_true_eq]; exact hp.2)]
    have f2 : ∀ c, lsP T S c = false → dyN T S 1 c = -1 := fun c hp => by
      unfold dyN
      by_cases q : S 1 c = -1
      · rw [if_pos q]
      · rw [if_neg q]
        show (if dyP T S c 0 = true then nI 0 else -1) = _
        rw [if_neg]
        unfold dyP
        rw [decide_eq_true_eq]
        intro z
        have z' : S 0 c ≤ 0 := z
        simp [lsP, q, z'] at hp
    rcases bs_first (f := dyN T S 1) (M := nI 0) (m0 := -1) (p := lsP T S) (by decide) (T.1 2) (fun c _ h => f1 c h) (fun c _ h => by rw [f2 c h]; decide) with ⟨k1, -⟩ | ⟨c, k1, k2, k3, k4⟩
    · rw [fs_no (fun k _ hk => k1 k (by omega)), bs_none (fun c hc => f2 c (k1 c hc))]
    · rw [k4, fs_at (by omega) (by omega) k2 (fun j _ hj => k3 j hj)]
  | k + 1, hk => by
    have ih := ls_eq h6 hv k (by omega)
    have hdd : ∀ c, c < T.1 2 → ddP T (pnS T S k) true c = (decide (¬ S 1 c = -1) && (!dyP T S c k && dyP T S c (k + 1))) := fun c hc => dd_dy hv hc
    have f1 : ∀ c, c < T.1 2 → ddP T (pnS T S k) true c = true → dyN T S (k + 1 + 1) c = nI (k + 1) := fun c hc hp => by
      rw [hdd c hc] at hp
      simp only [Bool.and_eq_true, decide_eq_true_eq, Bool.not_eq_true'] at hp
      unfold dyN
      rw [if_neg hp.1]
      refine fs_at (by omega) (by omega) hp.2.2 (fun j _ hj => ?_)
      cases hb : dyP T S c j with
      | false => rfl
      | true =>
        have := dy_m (m := k) (by omega) hb
        rw [hp.2.1] at this
        exact absurd this (by decide)
    have f2 : ∀ c, c < T.1 2 → ddP T (pnS T S k) true c = false → dyN T S (k + 1 + 1) c = dyN T S (k + 1) c ∧ dyN T S (k + 1) c < nI (k + 1) := fun c hc hp => by
      rw [hdd c hc] at hp
      unfold dyN
      by_cases q : S 1 c = -1
      · rw [if_pos q, if_pos q]; exact ⟨rfl, m1lt (by omega)⟩
      · rw [if_neg q, if_neg q]
        rcases fs_cs (dyP T S c) (k + 1) with ⟨h1, h2⟩ | ⟨m, h1, h2, h3, h4⟩
        · rw [h2]
          refine ⟨fs_no (fun j _ hj => ?_), m1lt (by omega)⟩
          by_cases z : j < k + 1
          · exact h1 j z
          · have : j = k + 1 := by omega
            subst this
            simp [q, h1 k (by omega)] at hp
            exact hp
        · rw [h4]
          exact ⟨fs_at (by omega) (by omega) h2 (fun j _ hj => h3 j hj), nIlt h1 (by omega)⟩
    have es : lsV T S (k + 1) = if ddS T (pnS T S k) true = 0 then lsV T S k else ddS T (pnS T S k) true := rfl
    by_cases z : ddS T (pnS T S k) true = 0
    · have hz := bt_0 h6 z
      unfold lsA
      rw [es, if_pos z]
      rw [bs_cong (g := dyN T S (k + 1)) (fun c hc => (f2 c hc (hz c hc)).1)]
      exact ih
    · unfold lsA
      rw [es, if_neg z]
      have := nt_fs (ddP T (pnS T S k) true) h6
      show (if btF (ddP T (pnS T S k) true) (T.1 2) = 0 then -1 else ntI (btF (ddP T (pnS T S k) true) (T.1 2))) = _
      rw [this]
      rcases bs_first (f := dyN T S (k + 1 + 1)) (M := nI (k + 1)) (m0 := -1) (p := ddP T (pnS T S k) true) (m1lt (by omega)) (T.1 2) f1 (fun c hc hp => by rw [(f2 c hc hp).1]; exact (f2 c hc hp).2) with ⟨k1, -⟩ | ⟨c, k1, k2, k3, k4⟩
      · obtain ⟨c, hc, hp⟩ := bt_n0 (p := ddP T (pnS T S k) true) z
        rw [k1 c hc] at hp
        exact absurd hp (by decide)
      · rw [k4, fs_at (by omega) (by omega) k2 (fun j _ hj => k3 j hj)]
theorem ls_bt {T : TW} {S : SK} : ∀ k, ∃ p : Nat → Bool, lsV T S k = btF p (T.1 2)
  | 0 => ⟨_, rfl⟩
  | k + 1 => by
    show ∃ p : Nat → Bool, (if ddS T (pnS T S k) true = 0 then lsV T S k else ddS T (pnS T S k) true) = btF p (T.1 2)
    by_cases z : ddS T (pnS T S k) true = 0
    · rw [if_pos z]; exact ls_bt k
    · rw [if_neg z]; exact ⟨_, rfl⟩
def laR (A : AB) : Int32 := (bsF (dyN A.1 A.2.1.1 41) (-1) (A.1.1 2)).1
theorem c_last {A : AB} {σ : MM} (hV : VA A) (hA : CA A σ) : wp (FX11_last 0) σ (fun r τ => r = laR A ∧ eqr RtC σ τ) := by
  have v6 := hV.1.1.2.2.1
  unfold FX11_last
  rw [r0_5, r0_6]
  obtain ⟨τ, e, h0⟩ := kt_copy v6 eqr_rf hA.2.1.1
  refine wp_eq e ?_
  refine wp_eq (ks_hanging (tc_T h0.2 hA.1) o43 h0.1) ?_
  refine wp_eq (ks_wetOnes (tc_T h0.2 hA.1) o43 h0.1) ?_
  rw [lt_eq]
  have e0 : hgS A.1 A.2.1.1 &&& (wnS A.1 A.2.1.1 ^^^ (-1 : Int32)) = lsV A.1 A.2.1.1 0 := an_bt _ _ v6
  rw [e0]
  refine ws_it (fun k s υ => s = (lsV A.1 A.2.1.1 k, nI k) ∧ TrC A.1 σ (pnS A.1 A.2.1.1 k) υ) 40 (by omega) ⟨rfl, h0⟩ ?_
  rintro k s υ hk ⟨rfl, hq⟩
  by_cases hkn : k < 40
  · rw [if_neg (show ¬ (40 : Int32) ≤ nI k from nle_n hkn (by decide))]
    refine wp_bd (kt_pass hV.1 hA.1 hq true) ?_
    rintro r ω ⟨rfl, h2⟩
    have es : lsV A.1 A.2.1.1 (k + 1) = if ddS A.1 (pnS A.1 A.2.1.1 k) true = 0 then lsV A.1 A.2.1.1 k else ddS A.1 (pnS A.1 A.2.1.1 k) true := rfl
    by_cases z : ddS A.1 (pnS A.1 A.2.1.1 k) true = 0
    · rw [if_pos z]
      refine wp_eq (show pu _ ω = some (_, ω) from rfl) ?_
      rw [lt_eq]
      exact wp_pu (Or.inl ⟨_, rfl, hkn, by rw [es, if_pos z, nI_1], h2⟩)
    · rw [if_neg z]
      refine wp_eq (show pu _ ω = some (_, ω) from rfl) ?_
      rw [lt_eq]
      exact wp_pu (Or.inl ⟨_, rfl, hkn, by rw [es, if_neg z, nI_1], h2⟩)
  · have : k = 40 := by omega
    subst this
    rw [if_pos (show (40 : Int32) ≤ nI 40 by decide)]
    refine wp_pu (Or.inr ⟨_, rfl, ?_⟩)
    have hl := ls_eq v6 hV.2.1.1 40 (by decide)
    unfold lsA at hl
    obtain ⟨p, hp⟩ := ls_bt (T := A.1) (S := A.2.1.1) 40
    by_cases z : lsV A.1 A.2.1.1 40 = 0
    · rw [if_pos z] at hl ⊢
      exact wp_eq (show pu _ υ = some (_, υ) from rfl) (wp_pu ⟨hl, hq.2⟩)
    · rw [if_neg z] at hl ⊢
      have en := nt_bt p v6 υ
      rw [← hp] at en
      refine bd_asw (wp_eq en ?_)
      exact wp_eq (show pu _ υ = some (_, υ) from rfl) (wp_pu ⟨hl, hq.2⟩)
theorem m_last {A : AB} {σ : MM} (hV : VA A) (hA : MA A σ) : wp (FX12_last 249) σ (fun r τ => r = laR A ∧ MA A τ ∧ ofM σ τ) := by
  have v6 := hV.1.1.2.2.1
  unfold FX12_last
  refine mq_w hV hA (R := RtM) (fun σ hA => ?_) RtM_sc
  unfold laR
  generalize hf : dyN A.1 A.2.1.1 41 = f
  refine ws_it (fun k s υ => s = ((bsF f (-1) k).1, (bsF f (-1) k).2, nI k) ∧ eqr RtM σ υ) (A.1.1 2) (by omega) ⟨rfl, eqr_rf⟩ ?_
  rintro k s υ hk ⟨rfl, hq⟩
  refine wp_eq (ms_cloths (tm_T hq hA.1)) ?_
  by_cases hkn : k < A.1.1 2
  · rw [if_neg (nle_n hkn (by omega))]
    refine wp_bd (m_dryOf hV hA hq hkn) ?_
    rintro r ω ⟨rfl, h2⟩
    rw [hf]
    by_cases z : f k ≤ (bsF f (-1) k).2
    · rw [if_pos z, if_pos z]
      refine wp_eq (show pu _ ω = some (_, ω) from rfl) (wp_eq (show pu _ ω = some (_, ω) from rfl) ?_)
      rw [lt_eq]
      exact wp_pu (Or.inl ⟨_, rfl, hkn, by rw [bs_1, bs_2, if_pos z, if_pos z, nI_1], h2⟩)
    · rw [if_neg z, if_neg z]
      refine wp_eq (show pu _ ω = some (_, ω) from rfl) (wp_eq (show pu _ ω = some (_, ω) from rfl) ?_)
      rw [lt_eq]
      exact wp_pu (Or.inl ⟨_, rfl, hkn, by rw [bs_1, bs_2, if_neg z, if_neg z, nI_1], h2⟩)
  · have : k = A.1.1 2 := by omega
    subst this
    rw [if_pos (le_nn (by omega))]
    exact wp_pu (Or.inr ⟨_, rfl, wp_pu ⟨rfl, hq⟩⟩)
theorem ok_28 {σ : MM} (h : Inv σ) (q : Nat → Int32) : okC (fun chk => TL_28 chk q) σ := by
  obtain ⟨A, hV, hC, hM⟩ := h
  exact okC_of (eq := fun x y => x = y) rfl hV hV hM (cq_w hC (c_last hV hC) RtC_sc) (fun τ hM => m_last hV hM)
