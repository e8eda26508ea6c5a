/-! ===== what was ===== -/
theorem mm_at {f : Nat → Nat → Int32} {a j : Nat} {x : Int32} {s : (Nat → Nat → Int64) × Option (Fin 23)} : ((up2 f a j x, s) : MM).1 a j = x := up2_at
theorem mm_ne {f : Nat → Nat → Int32} {a j b i : Nat} {x : Int32} {s : (Nat → Nat → Int64) × Option (Fin 23)} (h : ¬ (b = a ∧ i = j)) : ((up2 f a j x, s) : MM).1 b i = f b i := up2_ne h
theorem rf49 : ∀ i, i < 16 → rf 49 i = 50 + 5 * i := by decide +kernel
theorem ob49 : ∀ i, i < 16 → (decide (50 + 5 * i < 270) && decide (sh (50 + 5 * i) = (4, 0))) = true := by decide +kernel
theorem nx_up : ∀ n, n < 16 → (nI n + 1) - (nI n + 1) / 16 * 16 = nI ((n + 1) % 16) := by decide +kernel
theorem nx_dn : ∀ n, n < 16 → ((nI n + 16) - 1) - ((nI n + 16) - 1) / 16 * 16 = nI ((n + 15) % 16) := by decide +kernel
theorem sz_up : ∀ n, n < 17 → (if (16 : Int32) < nI n + 1 then (16 : Int32) else nI n + 1) = nI (if n = 16 then 16 else n + 1) := by decide +kernel
def CPa (T : TW) (n : Nat) (H : Nat → SK) (σ : MM) : Prop := ∃ nx, nx < 16 ∧ n ≤ 16 ∧ σ.1 48 1 = nI n ∧ σ.1 48 2 = nI nx ∧ ∀ i, i < n → CSk T (50 + 5 * ((nx + 16 - n + i) % 16)) (H i) σ
def MPa (T : TW) (n : Nat) (H : Nat → SK) (σ : MM) : Prop := n ≤ 16 ∧ σ.1 249 24 = nI n ∧ ∀ i, i < n → MSk T (42 * (5 + i)) (H i) σ
def kpn (n : Nat) : Nat := if n = 16 then 16 else n + 1
def kpH (n : Nat) (H : Nat → SK) (S : SK) (i : Nat) : SK := if n = 16 then (if i < 15 then H (i + 1) else S) else if i < n then H i else S
theorem CPa_r {R : Nat → Nat → Prop} {T : TW} {n : Nat} {H : Nat → SK} {σ τ : MM} (h : eqr R σ τ) (hR : ∀ b j, 48 ≤ b → b ≤ 129 → ¬ R b j) (hP : CPa T n H σ) : CPa T n H τ := by
  obtain ⟨nx, h1, h2, h3, h4, h5⟩ := hP
  refine ⟨nx, h1, h2, ?_, ?_, fun i hi => ?_⟩
  · rw [h.1 _ _ (hR _ _ (by omega) (by omega))]; exact h3
  · rw [h.1 _ _ (hR _ _ (by omega) (by omega))]; exact h4
  · have : (nx + 16 - n + i) % 16 < 16 := Nat.mod_lt _ (by decide)
    exact CSk_r h (fun j => ⟨hR _ _ (by omega) (by omega), hR _ _ (by omega) (by omega), hR _ _ (by omega) (by omega)⟩) (hR _ _ (by omega) (by omega)) (h5 i hi)
theorem MPa_r {R : Nat → Nat → Prop} {T : TW} {n : Nat} {H : Nat → SK} {σ τ : MM} (h6 : T.1 2 ≤ 6) (h : eqr R σ τ) (hR : ∀ j, 210 ≤ j → j < 882 → ¬ R 265 j) (hR2 : ¬ R 249 24) (hP : MPa T n H σ) : MPa T n H τ := by
  obtain ⟨h1, h2, h3⟩ := hP
  refine ⟨h1, ?_, fun i hi => ?_⟩
  · rw [h.1 _ _ hR2]; exact h2
  · exact MSk_r h h6 (fun j h1 h2 => hR j (by omega) (by omega)) (h3 i hi)
theorem ks_keep {T : TW} {S : SK} {σ : MM} {n : Nat} {H : Nat → SK} (h6 : T.1 2 ≤ 6) (hS : CSk T 38 S σ) (hP : CPa T n H σ) : wp (FX2_keep 48 38) σ (fun _ τ => CPa T (kpn n) (kpH n H S) τ ∧ eqr (fun r _ => 48 ≤ r ∧ r ≤ 129) σ τ) := by
  obtain ⟨nx, h1, h2, h3, h4, h5⟩ := hP
  unfold FX2_keep
  rw [r48_0]
  refine ws_gv h4 ?_
  refine wp_eq (show gd (ib (nI nx) 16 = true) σ = some ((), σ) by unfold gd; rw [if_pos (ib_n h1 (by decide))]) ?_
  rw [cl_n (by omega), rf49 nx h1]
  obtain ⟨τ, e, hc, hq⟩ := ks_copy h6 (ob_of (ob49 nx h1)) o38 (by omega) hS
  refine wp_eq e ?_
  refine ws_gv ((hq.1 48 2 (by omega)).trans h4) ?_
  refine wp_eq (show gd (¬ (16 : Int32) = 0) τ = some ((), τ) from rfl) ?_
  refine ws_s (ws_gv (x := nI n) ?_ (ws_s (wp_pu ?_)))
  · simp [up2]
    rw [hq.1 48 1 (by omega)]
    exact h3
  · rw [nx_up nx h1, sz_up n (by omega)]
    have hq2 : eqr (fun r j => r = 48 ∧ (j = 1 ∨ j = 2)) τ (up2 (up2 τ.1 48 2 (nI ((nx + 1) % 16))) 48 1 (nI (if n = 16 then 16 else n + 1)), τ.2) := eqr_tr (eqr_up (by omega)) (eqr_up (σ := (up2 τ.1 48 2 (nI ((nx + 1) % 16)), τ.2)) (by omega))
    refine ⟨⟨(nx + 1) % 16, Nat.mod_lt _ (by decide), ?_, ?_, ?_, fun i hi => ?_⟩, eqr_tr (eqr_mono hq (fun b j q => by omega)) (eqr_mono hq2 (fun b j q => by omega))⟩
    · unfold kpn; split <;> omega
    · exact mm_at
    · exact (mm_ne (by omega)).trans mm_at
    · have hm : ((nx + 1) % 16 + 16 - kpn n + i) % 16 < 16 := Nat.mod_lt _ (by decide)
      refine CSk_r hq2 (fun j => by omega) (by omega) ?_
      unfold kpn at hi hm ⊢
      unfold kpH
      by_cases q : n = 16
      · rw [if_pos q] at hi hm ⊢
        rw [if_pos q]
        by_cases q2 : i < 15
        · rw [if_pos q2]
          have := h5 (i + 1) (by omega)
          rw [show (nx + 16 - n + (i + 1)) % 16 = ((nx + 1) % 16 + 16 - 16 + i) % 16 by omega] at this
          exact CSk_r hq (fun j => by omega) (by omega) this
        · rw [if_neg q2, show ((nx + 1) % 16 + 16 - 16 + i) % 16 = nx by omega]
          exact hc
      · rw [if_neg q] at hi hm ⊢
        rw [if_neg q]
        by_cases q2 : i < n
        · rw [if_pos q2]
          have := h5 i q2
          rw [show (nx + 16 - n + i) % 16 = ((nx + 1) % 16 + 16 - (n + 1) + i) % 16 by omega] at this
          exact CSk_r hq (fun j => by omega) (by omega) this
        · rw [if_neg q2, show ((nx + 1) % 16 + 16 - (n + 1) + i) % 16 = nx by omega]
          exact hc
theorem ks_back {T : TW} {S : SK} {σ : MM} {n : Nat} {H : Nat → SK} (h6 : T.1 2 ≤ 6) (hS : CSk T 38 S σ) (hP : CPa T n H σ) : wp (FX2_bringBack 48 38) σ (fun r τ => r = decide (¬ n = 0) ∧ CSk T 38 (if n = 0 then S else H (n - 1)) τ ∧ CPa T (n - 1) H τ ∧ eqr (fun r j => 38 ≤ r ∧ r ≤ 41 ∨ r = 48) σ τ) := by
  have hP0 := hP
  obtain ⟨nx, h1, h2, h3, h4, h5⟩ := hP
  unfold FX2_bringBack
  rw [r48_0]
  refine ws_gv h3 ?_
  by_cases q : n = 0
  · subst q
    rw [if_pos rfl]
    exact ws_z0 ⟨by simp, hS, hP0, eqr_rf⟩
  · rw [if_neg (nI_ne0 (by omega) (by omega))]
    refine ws_gv h4 ?_
    refine wp_eq (show gd (¬ (16 : Int32) = 0) σ = some ((), σ) from rfl) ?_
    rw [nx_dn nx h1]
    have hm : (nx + 15) % 16 < 16 := Nat.mod_lt _ (by decide)
    refine ws_s (ws_gv (x := nI n) ?_ (ws_s (ws_gv (x := nI ((nx + 15) % 16)) ?_ ?_)))
    · simp [up2]
      exact h3
    · simp [up2]
    have hq2 : eqr (fun r j => r = 48 ∧ (j = 1 ∨ j = 2)) σ (up2 (up2 σ.1 48 2 (nI ((nx + 15) % 16))) 48 1 (nI n - 1), σ.2) := eqr_tr (eqr_up (by omega)) (eqr_up (σ := (up2 σ.1 48 2 (nI ((nx + 15) % 16)), σ.2)) (by omega))
    have k1 : ((up2 (up2 σ.1 48 2 (nI ((nx + 15) % 16))) 48 1 (nI n - 1), σ.2) : MM).1 48 1 = nI (n - 1) := by
      rw [mm_at]
      exact pk_sub (b := 1) (by omega)
    have k2 : ((up2 (up2 σ.1 48 2 (nI ((nx + 15) % 16))) 48 1 (nI n - 1), σ.2) : MM).1 48 2 = nI ((nx + 15) % 16) := by
      rw [mm_ne (by omega), up2_at]
    show wp _ ((up2 (up2 σ.1 48 2 (nI ((nx + 15) % 16))) 48 1 (nI n - 1), σ.2) : MM) _
    generalize ((up2 (up2 σ.1 48 2 (nI ((nx + 15) % 16))) 48 1 (nI n - 1), σ.2) : MM) = τ at hq2 k1 k2
    refine wp_eq (show gd (ib (nI ((nx + 15) % 16)) 16 = true) τ = some ((), τ) by unfold gd; rw [if_pos (ib_n hm (by decide))]) ?_
    rw [cl_n (by omega), rf49 _ hm]
    have hc : CSk T (50 + 5 * ((nx + 15) % 16)) (H (n - 1)) τ := by
      have := h5 (n - 1) (by omega)
      rw [show (nx + 16 - n + (n - 1)) % 16 = (nx + 15) % 16 by omega] at this
      exact CSk_r hq2 (fun j => by omega) (by omega) this
    obtain ⟨υ, e, hc2, hq⟩ := ks_copy h6 o38 (ob_of (ob49 _ hm)) (by omega) hc
    refine wp_eq e (ws_z1 ⟨by simp [q], by rw [if_neg q]; exact hc2, ⟨(nx + 15) % 16, hm, by omega, ?_, ?_, fun i hi => ?_⟩, eqr_tr (eqr_mono hq2 (fun b j q => by omega)) (eqr_mono hq (fun b j q => by omega))⟩)
    · rw [hq.1 _ _ (by omega)]; exact k1
    · rw [hq.1 _ _ (by omega)]; exact k2
    · have := h5 i (by omega)
      rw [show (nx + 16 - n + i) % 16 = ((nx + 15) % 16 + 16 - (n - 1) + i) % 16 by omega] at this
      have hm2 : ((nx + 15) % 16 + 16 - (n - 1) + i) % 16 < 16 := Nat.mod_lt _ (by decide)
      exact CSk_r hq (fun j => by omega) (by omega) (CSk_r hq2 (fun j => by omega) (by omega) this)
theorem ms_keeps {T : TW} {S : SK} {σ : MM} {n : Nat} {H : Nat → SK} (h6 : T.1 2 ≤ 6) (hS : MSk T 0 S σ) (hP : MPa T n H σ) : wp (FX12_keeps 249) σ (fun _ τ => MPa T (kpn n) (kpH n H S) τ ∧ eqr (fun r j => (r = 265 ∧ 210 ≤ j ∧ j < 882) ∨ (r = 249 ∧ j = 24)) σ τ) := by
  obtain ⟨h1, h2, h3⟩ := hP
  unfold FX12_keeps
  refine ws_gv h2 ?_
  have fin : ∀ (m : Nat) (G : Nat → SK) (τ : MM), m < 16 → τ.1 249 24 = nI m → (∀ i, i < m → MSk T (42 * (5 + i)) (G i) τ) → eqr (fun r j => (r = 265 ∧ 210 ≤ j ∧ j < 882) ∨ (r = 249 ∧ j = 24)) σ τ → kpn n = m + 1 → (∀ i, i < m → kpH n H S i = G i) → kpH n H S m = S → wp (bd (gI 249 24) (fun x8 => bd (FX12_copies 249 (0 : Int32) ((42 : Int32) * ((5 : Int32) + x8)) (19 : Int32)) (fun (_ : Unit) => bd (gI 249 24) (fun x10 => bd (sI 249 24 (x10 + (1 : Int32))) (fun (_ : Unit) => pu ()))))) τ (fun _ τ => MPa T (kpn n) (kpH n H S) τ ∧ eqr (fun r j => (r = 265 ∧ 210 ≤ j ∧ j < 882) ∨ (r = 249 ∧ j = 24)) σ τ) := by
    intro m G τ hm hn hG hq hk hkG hkS
    refine ws_gv hn ?_
    have i1 : (42 : Int32) * ((5 : Int32) + nI m) = nI (42 * (5 + m)) := by rw [show (5 : Int32) = nI 5 from rfl, nI_add, show (42 : Int32) = nI 42 from rfl, pk_mul]
    rw [i1]
    have hS' : MSk T 0 S τ := MSk_r hq h6 (fun j q1 q2 => by omega) hS
    refine wp_bd (ms_copyS (f := 0) (t := 42 * (5 + m)) h6 (by omega) (by omega) (by omega) hS') ?_
    rintro _ υ ⟨c1, c2⟩
    refine ws_gv ((c2.1 _ _ (by omega)).trans hn) (ws_s (wp_pu ⟨?_, eqr_tr hq (eqr_tr (eqr_mono c2 (fun b j q => by omega)) (eqr_up (by omega)))⟩))
    rw [hk]
    refine ⟨by omega, ?_, fun i hi => ?_⟩
    · exact mm_at.trans (nI_1 m)
    · refine MSk_r (R := fun r j => r = 249 ∧ j = 24) (eqr_up (by omega)) h6 (fun j _ _ => by omega) ?_
      by_cases q : i = m
      · subst q
        rw [hkS]
        exact c1
      · rw [hkG i (by omega)]
        exact MSk_r c2 h6 (fun j q1 q2 => by omega) (hG i (by omega))
  by_cases q : n = 16
  · subst q
    rw [if_pos (show nI 16 = (16 : Int32) from rfl)]
    refine bd_asw (ws_it (fun k s τ => s = nI (k + 1) ∧ τ.1 249 24 = nI 16 ∧ eqr (fun r j => (r = 265 ∧ 210 ≤ j ∧ j < 882) ∨ (r = 249 ∧ j = 24)) σ τ ∧ (∀ i, i < k → MSk T (42 * (5 + i)) (H (i + 1)) τ) ∧ ∀ i, k ≤ i → i < 16 → MSk T (42 * (5 + i)) (H i) τ) 15 (by decide) ⟨rfl, h2, eqr_rf, fun i hi => by omega, fun i _ hi => h3 i hi⟩ ?_)
    rintro k s τ hk ⟨rfl, hn, hq, hlo, hhi⟩
    by_cases hkn : k < 15
    · rw [if_neg (show ¬ (16 : Int32) ≤ nI (k + 1) from nle_n (b := 16) (by omega) (by decide))]
      have i1 : (42 : Int32) * ((5 : Int32) + nI (k + 1)) = nI (42 * (5 + (k + 1))) := by rw [show (5 : Int32) = nI 5 from rfl, nI_add, show (42 : Int32) = nI 42 from rfl, pk_mul]
      have i2 : (42 : Int32) * ((5 : Int32) + nI (k + 1) - (1 : Int32)) = nI (42 * (5 + k)) := by
        rw [show (5 : Int32) = nI 5 from rfl, nI_add, show (1 : Int32) = nI 1 from rfl, pk_sub (by omega), show (42 : Int32) = nI 42 from rfl, pk_mul]
        congr 1
      rw [i1, i2]
      refine wp_bd (ms_copyS (f := 42 * (5 + (k + 1))) (t := 42 * (5 + k)) h6 (by omega) (by omega) (by omega) (hhi (k + 1) (by omega) (by omega))) ?_
      rintro _ υ ⟨c1, c2⟩
      rw [lt_eq]
      refine wp_pu (Or.inl ⟨_, rfl, hkn, by rw [nI_1], (c2.1 _ _ (by omega)).trans hn, eqr_tr hq (eqr_mono c2 (fun b j q => by omega)), fun i hi => ?_, fun i hi1 hi2 => ?_⟩)
      · by_cases q : i = k
        · subst q; exact c1
        · exact MSk_r c2 h6 (fun j q1 q2 => by omega) (hlo i (by omega))
      · exact MSk_r c2 h6 (fun j q1 q2 => by omega) (hhi i (by omega) hi2)
    · have : k = 15 := by omega
      subst this
      rw [if_pos (show (16 : Int32) ≤ nI (15 + 1) by decide)]
      refine wp_pu (Or.inr ⟨_, rfl, bd_asw (ws_gv hn (bd_asw (ws_s ?_)))⟩)
      refine wp_eq (show pu () _ = some ((), _) from rfl) ?_
      have hq2 : eqr (fun r j => r = 249 ∧ j = 24) τ (up2 τ.1 249 24 (nI 16 - 1), τ.2) := eqr_up (by omega)
      refine fin 15 (fun i => H (i + 1)) _ (by decide) ?_ (fun i hi => MSk_r hq2 h6 (fun j _ _ => by omega) (hlo i hi)) (eqr_tr hq (eqr_mono hq2 (fun b j q => by omega))) rfl (fun i hi => ?_) ?_
      · exact mm_at
      · unfold kpH; rw [if_pos rfl, if_pos hi]
      · unfold kpH; rw [if_pos rfl, if_neg (by omega)]
  · rw [if_neg (show ¬ nI n = (16 : Int32) from fun e => q ((nI_eq (by omega) (by decide)).mp (show nI n = nI 16 from e)))]
    refine wp_eq (show pu () σ = some ((), σ) from rfl) ?_
    refine fin n H σ (by omega) h2 h3 eqr_rf (by unfold kpn; rw [if_neg q]) (fun i hi => ?_) ?_
    · unfold kpH; rw [if_neg q, if_pos hi]
    · unfold kpH; rw [if_neg q, if_neg (by omega)]
