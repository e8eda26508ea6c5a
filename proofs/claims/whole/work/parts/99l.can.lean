/-! ===== wishes: whether each place could still get what is wanted ===== -/
theorem wnN_n {k : Nat} (h : k < 4) : wnN (nI k) = k := by
  have n2 : ¬ nI k = -2 := fun e => absurd (show nI k < 0 by rw [e]; decide) (nI_pos (by omega))
  unfold wnN
  rw [if_neg n2, if_neg (nm1 k (by omega)), cl_n (by omega)]
def csb (P : RQ) (g : Nat → Nat) (c m p : Nat) : Prop := (qW P p = 4 → ∀ j, j < 4 → nN P g p c j = 0) ∧ (qW P p < 4 → Wins (ud (nN P g p c) (qW P p) (nN P g p c (qW P p) + min m (lfN P (qW P p) c (qC P)))) (qW P p))
theorem c_can {T : TW} {S : SK} {W : Nat → Int32} {g : Nat → Nat} {c m : Nat} {τ : MM} (hV : VTn T) (vW : VWa T W) (hT : CTn T τ) (hW : CWa 131 W τ) (hC : WC T S g c τ) (hr : rOk T S g c) (hc : c ≤ T.1 2) (hm : m ≤ 6) : wp (FX9_canStillBe 130 (nI c) (nI m)) τ (fun r υ => eqr (fun b _ => b = 47) τ υ ∧ (r = true ↔ ∀ p, p < T.1 1 → csb (PW T S W) g c m p)) := by
  have v4 := hV.1.2.1
  have v6 := hV.1.2.2.1
  unfold FX9_canStillBe
  rw [r130_2, r130_0, sk0 o43, sk4 o43]
  refine ws_it (fun k s υ => s = nI k ∧ eqr (fun b _ => b = 47) τ υ ∧ ∀ p, p < k → csb (PW T S W) g c m p) (T.1 1) (by omega) ⟨rfl, eqr_rf, fun p hp => by omega⟩ ?_
  rintro k s υ hk ⟨rfl, hq, hJ⟩
  have hTυ : CTn T υ := CTn_r hq (fun b j _ _ => by omega) hT
  have hCυ := WC_47 hC hq
  refine ws_gv hTυ.1.2.1 ?_
  by_cases hkn : k < T.1 1
  · rw [if_neg (nle_n hkn (by omega))]
    refine ws_a (by omega) (by decide) ((hq.1 _ _ (by omega)).trans (hW k (by omega))) ?_
    unfold jn
    dsimp only
    have nxt : ∀ ω : MM, eqr (fun b _ => b = 47) τ ω → csb (PW T S W) g c m k → wp (lt (nI k + (1 : Int32)) (fun y7 => pu (Sum.inl y7)) : PP ((Int32) ⊕ ((Unit) ⊕ ((Unit) ⊕ (Unit))))) ω (fun r υ => (∃ a', r = .inl a' ∧ k < T.1 1 ∧ (a' = nI (k + 1) ∧ eqr (fun b _ => b = 47) τ υ ∧ ∀ p, p < k + 1 → csb (PW T S W) g c m p)) ∨ (∃ b, r = .inr b ∧ wp ((Sum.elim (fun (v13 : Unit) => zb (1 : Int32)) (Sum.elim (fun (v14 : Unit) => zb (0 : Int32)) (fun (v15 : Unit) => zb (0 : Int32)))) b) υ (fun r υ => eqr (fun b _ => b = 47) τ υ ∧ (r = true ↔ ∀ p, p < T.1 1 → csb (PW T S W) g c m p)))) := fun ω h1 h2 => by
      rw [lt_eq]
      refine wp_pu (Or.inl ⟨_, rfl, hkn, nI_1 k, h1, fun p hp => ?_⟩)
      by_cases z : p = k
      · rw [z]; exact h2
      · exact hJ p (by omega)
    have bad : ∀ ω : MM, eqr (fun b _ => b = 47) τ ω → ¬ csb (PW T S W) g c m k → wp (zb (0 : Int32)) ω (fun r υ => eqr (fun b _ => b = 47) τ υ ∧ (r = true ↔ ∀ p, p < T.1 1 → csb (PW T S W) g c m p)) := fun ω h1 h2 => ws_z0 ⟨h1, fun e => absurd e (by decide), fun e => absurd (e k hkn) h2⟩
    obtain ⟨⟨U, u1, u2, u3⟩, u4⟩ := hCυ
    have hcn : ∀ j, j < 4 → cnS T U k 0 j = nI (nN (PW T S W) g k c j) := fun j hj => cn_row hV u3 hr hc hj
    have hlt : ∀ j, j < 4 → nN (PW T S W) g k c j < 20 := fun j _ => nN_lt hV hc
    have eW : qW (PW T S W) k = wnN (W k) := rfl
    rcases (vW k (by omega)).1 with q | q | ⟨w, hw, q⟩
    · rw [q, if_neg (by decide), if_pos (by decide)]
      refine nxt υ hq ?_
      have : qW (PW T S W) k = 5 := by rw [eW, q]; decide
      exact ⟨fun e => by omega, fun e => by omega⟩
    · rw [q, if_pos rfl]
      obtain ⟨ω, e1, g1, -⟩ := ks_weather hV hTυ o43 u1 hkn 0
      refine wp_eq e1 ?_
      have hω : eqr (fun b _ => b = 47) τ ω := eqr_tr hq g1
      have e4 : qW (PW T S W) k = 4 := by rw [eW, q]; decide
      have he : (wxS T U k 0).1 = (wst (fun j => nI (nN (PW T S W) g k c j)) 4).1 := by
        unfold wxS
        rw [wst_cong hcn (Nat.le_refl 4)]
      obtain ⟨w1, -⟩ := we_win hlt he
      by_cases z : (wxS T U k 0).1 = -1
      · rw [if_pos z, if_pos (by decide)]
        exact nxt ω hω ⟨fun _ => w1.mp z, fun e => by omega⟩
      · rw [if_neg z]
        exact wp_pu (Or.inr ⟨_, rfl, bad ω hω (fun e => z (w1.mpr (e.1 e4)))⟩)
    · have n1 : ¬ nI w = -1 := nm1 w (by omega)
      rw [q, if_neg n1, if_neg (nI_pos (by omega))]
      have e4 : qW (PW T S W) k = w := by rw [eW, q]; exact wnN_n hw
      obtain ⟨ω, e1, g1, g2⟩ := ks_counts hV hTυ o43 u1 hkn 0
      refine wp_eq e1 ?_
      have hω : eqr (fun b _ => b = 47) τ ω := eqr_tr hq g1
      refine ws_a hw (by decide) ((g2 w hw).trans (hcn w hw)) ?_
      refine wp_eq (c_leftOf (S := S) (W := W) (g := g) hV (CTn_r hω (fun b j _ _ => by omega) hT) (WC_47 hC hω) hc hw) ?_
      have hlf : lfN (PW T S W) w c (T.1 2) ≤ T.1 2 := zsm_1 (fun k => by unfold lfF; split <;> (try split) <;> omega)
      have emin : nI (nN (PW T S W) g k c w) + (if nI (lfN (PW T S W) w c (T.1 2)) < nI m then nI (lfN (PW T S W) w c (T.1 2)) else nI m) = nI (nN (PW T S W) g k c w + min m (lfN (PW T S W) w c (T.1 2))) := by
        by_cases z : lfN (PW T S W) w c (T.1 2) < m
        · rw [if_pos (nI_lt z (by omega)), nI_add, Nat.min_eq_right (by omega)]
        · rw [if_neg (nI_nlt (by omega) (by omega)), nI_add, Nat.min_eq_left (by omega)]
      rw [emin]
      have hwl := hlt w hw
      refine wp_bd (c_wins (N := nN (PW T S W) g k c) (fun j hj => (g2 j hj).trans (hcn j hj)) hlt hw (by omega)) ?_
      rintro r ω2 ⟨rfl, hr2⟩
      cases r with
      | false =>
        rw [if_pos (by decide)]
        refine wp_pu (Or.inr ⟨_, rfl, bad _ hω (fun e => ?_)⟩)
        have := e.2 (by omega)
        rw [e4] at this
        exact absurd (hr2.mpr this) (by decide)
      | true =>
        rw [if_neg (by decide)]
        refine nxt _ hω ⟨fun e => by omega, fun _ => ?_⟩
        rw [e4]
        exact hr2.mp rfl
  · have : k = T.1 1 := by omega
    subst this
    rw [if_pos (le_nn (by omega))]
    exact wp_pu (Or.inr ⟨_, rfl, ws_z1 ⟨hq, fun _ => hJ, fun _ => rfl⟩⟩)
/-! rows from a cloth on -/
theorem zsm_tl {f : Nat → Nat} {c n : Nat} (h : c ≤ n) : zsm f n = zsm f c + zsm (fun k => if k < c then 0 else f k) n := by
  rw [← zsm_cut (f := f) h, ← zsm_add]
  refine zsm_cong (fun k _ => ?_)
  by_cases q : k < c <;> simp [q]
theorem zsm_z {f : Nat → Nat} : ∀ {n : Nat}, zsm f n = 0 → ∀ k, k < n → f k = 0
  | 0, _, k, hk => by omega
  | n + 1, h, k, hk => by
    have h2 : zsm f n + f n = 0 := h
    by_cases q : k = n
    · rw [q]; omega
    · exact zsm_z (n := n) (by omega) k (by omega)
theorem EE_can {P : RQ} {g h : Nat → Nat} {c m p : Nat} (hO : Okq P) (hc : c ≤ qC P) (hE : EE P g c m h) (hp : p < qP P) : csb P g c m p := by
  obtain ⟨h1, h2, h3, h4⟩ := hE
  have hL := hO.1
  have hN : ∀ j, nN P h p (qC P) j = nN P g p c j + zsm (fun k => if k < c then 0 else ad P h p j k) (qC P) := fun j => by
    rw [← nN_cong (g := h) (h := g) h1]
    unfold nN
    rw [zsm_tl (f := ad P h p j) hc]
    omega
  have hm : ∀ j, zsm (fun k => if k < c then 0 else ad P h p j k) (qC P) ≤ m := fun j => by
    have e : sz P h (qC P) = sz P h c + zsm (fun k => if k < c then 0 else hu P h k) (qC P) := zsm_tl hc
    have : zsm (fun k => if k < c then 0 else ad P h p j k) (qC P) ≤ zsm (fun k => if k < c then 0 else hu P h k) (qC P) := zsm_le (fun k _ => by
      by_cases q : k < c
      · simp [q]
      · simp only [if_neg q]
        unfold ad hu
        by_cases z : h k < qL P
        · rw [if_pos z]; split <;> omega
        · rw [if_neg (fun e => z e.1)]; omega)
    omega
  have hl : ∀ j, zsm (fun k => if k < c then 0 else ad P h p j k) (qC P) ≤ lfN P j c (qC P) := fun j => zsm_le (fun k hk => by
    unfold lfF
    by_cases q : k < c
    · simp [q]
    · simp only [if_neg q]
      unfold ad
      by_cases z : h k < qL P ∧ qw P k = true ∧ qk P k = j ∧ qa P p (h k) = true
      · have hy : qy P k = true := by
          rcases h2 k (by omega) hk with r | ⟨r1, r2, r3, r4⟩
          · have := z.1; omega
          · unfold fL at r3
            by_cases y : qy P k = true ∧ qw P k = true
            · exact y.1
            · rw [if_neg y] at r3; omega
        rw [if_pos z, if_pos ⟨hy, z.2.1, z.2.2.1⟩]
        exact Nat.le_refl _
      · rw [if_neg z]; omega)
  have hM := h4 p hp
  refine ⟨fun e j hj => ?_, fun e => ?_⟩
  · rcases hM with q | ⟨q, q2⟩ | ⟨q, q2⟩
    · omega
    · have := q2 j hj
      have := hN j
      omega
    · omega
  · rcases hM with q | ⟨q, q2⟩ | ⟨q, q2⟩
    · omega
    · omega
    · refine Wins_mono q2 ?_ (fun j hj hn => ?_)
      · rw [ud_at]
        have a1 := hN (qW P p)
        have a2 := hm (qW P p)
        have a3 := hl (qW P p)
        omega
      · rw [ud_ne hn]
        have := hN j
        omega
/-- the row, and nothing more -/
def g5 (g : Nat → Nat) (c : Nat) : Nat → Nat := fun k => if k < c then g k else 5
theorem can_0 {P : RQ} {g : Nat → Nat} {c : Nat} (hO : Okq P) (hc : c ≤ qC P) (hq : ∀ p, p < qP P → qW P p ≤ 5) (h : ∀ p, p < qP P → csb P g c 0 p) : EE P g c 0 (g5 g c) := by
  have hL := hO.1
  have e1 : ∀ i, i < c → g5 g c i = g i := fun i hi => by simp [g5, hi]
  have e2 : ∀ i, c ≤ i → g5 g c i = 5 := fun i hi => by simp [g5]; omega
  refine ⟨e1, fun k hk _ => Or.inl (e2 k hk), ?_, fun p hp => ?_⟩
  · have : zsm (fun k => if k < c then 0 else hu P (g5 g c) k) (qC P) = zsm (fun _ => 0) (qC P) := zsm_cong (fun k _ => by
      by_cases q : k < c
      · simp [q]
      · simp only [if_neg q]
        unfold hu
        rw [e2 k (by omega), if_neg (by omega)])
    have z : ∀ n, zsm (fun _ => 0) n = 0 := fun n => by
      induction n with
      | zero => rfl
      | succ n ih => show zsm (fun _ => 0) n + 0 = 0; omega
    have t : sz P (g5 g c) (qC P) = sz P (g5 g c) c + zsm (fun k => if k < c then 0 else hu P (g5 g c) k) (qC P) := zsm_tl hc
    rw [this, z] at t
    exact t
  · have hN : nN P (g5 g c) p (qC P) = nN P g p c := funext fun j => by
      rw [← nN_cong (g := g5 g c) (h := g) e1]
      unfold nN
      rw [zsm_tl (f := ad P (g5 g c) p j) hc]
      have : zsm (fun k => if k < c then 0 else ad P (g5 g c) p j k) (qC P) = zsm (fun _ => 0) (qC P) := zsm_cong (fun k _ => by
        by_cases q : k < c
        · simp [q]
        · simp only [if_neg q]
          unfold ad
          rw [if_neg (fun e => by have := e.1; rw [e2 k (by omega)] at this; omega)])
      have z : ∀ n, zsm (fun _ => 0) n = 0 := fun n => by
        induction n with
        | zero => rfl
        | succ n ih => show zsm (fun _ => 0) n + 0 = 0; omega
      rw [this, z]
      omega
    rw [hN]
    have hp5 := hq p hp
    obtain ⟨h1, h2⟩ := h p hp
    rcases (show qW P p = 5 ∨ qW P p = 4 ∨ qW P p < 4 by omega) with q | q | q
    · exact Or.inl q
    · exact Or.inr (Or.inl ⟨q, h1 q⟩)
    · have := h2 q
      rw [Nat.zero_min, Nat.add_zero] at this
      have e : ud (nN P g p c) (qW P p) (nN P g p c (qW P p)) = nN P g p c := funext fun j => by
        by_cases z : j = qW P p
        · rw [z, ud_at]
        · rw [ud_ne z]
      rw [e] at this
      exact Or.inr (Or.inr ⟨q, this⟩)
theorem EE_0 {P : RQ} {g h : Nat → Nat} {c : Nat} (hc : c ≤ qC P) (hE : EE P g c 0 h) : ∀ k, k < qC P → g5 g c k = h k := by
  obtain ⟨h1, h2, h3, h4⟩ := hE
  have t : sz P h (qC P) = sz P h c + zsm (fun k => if k < c then 0 else hu P h k) (qC P) := zsm_tl hc
  have z := zsm_z (show zsm (fun k => if k < c then 0 else hu P h k) (qC P) = 0 by omega)
  intro k hk
  by_cases q : k < c
  · simp [g5, q, h1 k q]
  · have e : g5 g c k = 5 := by simp [g5, q]
    have := z k hk
    simp only [if_neg q] at this
    rw [e]
    rcases h2 k (by omega) hk with r | r
    · exact r.symm
    · unfold hu at this
      rw [if_pos r.1] at this
      omega
theorem gE_cong {P : RQ} {g h : Nat → Nat} {c : Nat} (e : ∀ i, i ≤ c → g i = h i) : gE P g c ↔ gE P h c := by
  unfold gE
  rw [e c (Nat.le_refl _), fL_cong (fun i hi => e i (by omega)), ct_cong (n := c) (fun i hi => e i (by omega))]
theorem EE_s {P : RQ} {g h : Nat → Nat} {c k m m' : Nat} (hc : c < qC P) (hk : gE P (ud g c k) c) (hm : m = m' + (if k < qL P then 1 else 0)) : EE P (ud g c k) (c + 1) m' h ↔ EE P g c m h ∧ h c = k := by
  have hs : sz P h (c + 1) = sz P h c + (if h c < qL P then 1 else 0) := rfl
  constructor
  · intro ⟨h1, h2, h3, h4⟩
    have e : h c = k := by rw [h1 c (by omega)]; exact ud_at
    refine ⟨⟨fun i hi => by rw [h1 i (by omega)]; exact ud_ne (by omega), fun i hi1 hi2 => ?_, ?_, h4⟩, e⟩
    · by_cases q : i = c
      · subst q
        exact (gE_cong (fun j hj => (h1 j (by omega)).symm)).mp hk
      · exact h2 i (by omega) hi2
    · rw [e] at hs
      omega
  · intro ⟨⟨h1, h2, h3, h4⟩, e⟩
    refine ⟨fun i hi => ?_, fun i hi1 hi2 => h2 i (by omega) hi2, ?_, h4⟩
    · by_cases q : i = c
      · subst q; rw [e, ud_at]
      · rw [h1 i (by omega), ud_ne q]
    · rw [e] at hs
      omega
theorem EE_c {P : RQ} {g h : Nat → Nat} {c m : Nat} (hc : c < qC P) (hE : EE P g c m h) : gE P (ud g c (h c)) c := by
  refine (gE_cong (fun i hi => ?_)).mp (hE.2.1 c (by omega) hc)
  by_cases q : i = c
  · subst q; rw [ud_at]
  · rw [ud_ne q]; exact hE.1 i (by omega)
theorem c_forget {τ : MM} {c : Nat} (hc : c ≤ 6) : wp (FX9_forgetFrom 130 (nI c)) τ (fun _ υ => eqr (fun b _ => b = 132) τ υ ∧ (∀ i, i < c → υ.1 132 i = τ.1 132 i) ∧ ∀ i, c ≤ i → i < 6 → υ.1 132 i = -1) := by
  unfold FX9_forgetFrom
  rw [r130_1]
  refine ws_it (fun k s υ => s = nI (c + k) ∧ eqr (fun b _ => b = 132) τ υ ∧ (∀ i, i < c → υ.1 132 i = τ.1 132 i) ∧ ∀ i, c ≤ i → i < c + k → υ.1 132 i = -1) (6 - c) (by omega) ⟨rfl, eqr_rf, fun i _ => rfl, fun i h1 h2 => by omega⟩ ?_
  rintro k s υ hk ⟨rfl, hq, h1, h2⟩
  by_cases hk6 : c + k < 6
  · rw [if_neg (show ¬ (6 : Int32) ≤ nI (c + k) from nle_n hk6 (by decide))]
    refine ws_u hk6 (by decide) ?_
    rw [lt_eq]
    refine wp_pu (Or.inl ⟨_, rfl, by omega, nI_1 (c + k), eqr_tr hq (eqr_up rfl), fun i hi => ?_, fun i h3 h4 => ?_⟩)
    · show up2 υ.1 132 (c + k) (-1) 132 i = _
      rw [up2_ne (by omega)]
      exact h1 i hi
    · show up2 υ.1 132 (c + k) (-1) 132 i = _
      by_cases z : i = c + k
      · rw [z]; exact up2_at
      · rw [up2_ne (by omega)]
        exact h2 i h3 (by omega)
  · have : c + k = 6 := by omega
    rw [this, if_pos (show (6 : Int32) ≤ nI 6 by decide)]
    exact wp_pu (Or.inr ⟨_, rfl, wp_pu ⟨hq, h1, fun i h3 h4 => h2 i h3 (by omega)⟩⟩)
