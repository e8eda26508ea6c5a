/-! ===== feed ===== -/
theorem b255 : ∀ i, i < 32 → ¬ i < 8 → (255#32).getLsbD i = false := by decide +kernel
theorem shA : ∀ j, j < 8 → (((BitVec.signExtend 64 (nI (8 * j)).toBitVec).toNat &&& 63) % 64) = 8 * j ∧ ((BitVec.signExtend 64 (nI (8 * j)).toBitVec &&& 63#64).smod 64#64).toNat = 8 * j := by decide +kernel
theorem byC (j : Nat) (hj : j < 8) (p : Int64) : ((((p.toUInt64 >>> ((nI (8 * j)).toInt64.toUInt64 &&& Int64.toUInt64 63)).toInt64).toInt32) &&& (255 : Int32)) = (((p >>> ((nI (8 * j)).toInt64 &&& 63)).toInt32) &&& (255 : Int32)) := by
  obtain ⟨e1, e2⟩ := shA j hj
  apply Int32.toBitVec_inj.mp
  apply BitVec.eq_of_getLsbD_eq
  intro i hi
  simp
  rw [e1, e2]
  by_cases q : i < 8
  · have h1 : i < 64 := by omega
    have h2 : 8 * j + i < 64 := by omega
    congr 1
    rw [BitVec.getLsbD_signExtend, BitVec.getLsbD_signExtend, if_pos h1, if_pos h1, BitVec.getLsbD_ushiftRight, BitVec.getLsbD_sshiftRight, if_pos h2]
    congr 1
    rw [show decide (64 ≤ i) = false from decide_eq_false (by omega)]
    rfl
  · simp [b255 i hi q]
def bych (p : Int64) (j : Nat) : Int32 := (((p >>> ((nI (8 * j)).toInt64 &&& 63)).toInt32) &&& (255 : Int32))
theorem by_ex (p : Int64) (j : Nat) : ∃ q, q < 256 ∧ bych p j = nI q := pk_andE _ (m := 255) 8 rfl
def isSg (c : Int32) : Bool := decide (c = 10) || (decide (¬ c < 32) && decide (¬ 126 < c))
def fd1 (Q : Nat × (Nat → Int32)) (c : Int32) : Nat × (Nat → Int32) := if (isSg c && decide (Q.1 < 1000)) = true then (Q.1 + 1, fun i => if i = Q.1 then c else Q.2 i) else Q
/-- the bytes of a long, from the highest on; k of them left -/
def fdL (p : Int64) : Nat → Nat × (Nat → Int32) → Nat × (Nat → Int32)
  | 0, Q => Q
  | j + 1, Q => fdL p j (fd1 Q (bych p j))
theorem VTa_1 {Q : Nat × (Nat → Int32)} {c : Int32} (h : ∃ q, q < 256 ∧ c = nI q) (hQ : VTa Q) : VTa (fd1 Q c) := by
  unfold fd1
  by_cases z : (isSg c && decide (Q.1 < 1000)) = true
  · rw [if_pos z]
    rw [Bool.and_eq_true, decide_eq_true_eq] at z
    obtain ⟨q, hq, rfl⟩ := h
    refine ⟨by show Q.1 + 1 ≤ 1000; omega, fun i hi => ?_⟩
    show sgn (if i = Q.1 then nI q else Q.2 i)
    by_cases z2 : i = Q.1
    · rw [if_pos z2]
      refine ⟨q, rfl, ?_⟩
      have z1 := z.1
      unfold isSg at z1
      simp only [Bool.or_eq_true, Bool.and_eq_true, decide_eq_true_eq] at z1
      rcases z1 with z1 | ⟨z1, z3⟩
      · left; exact (nI_eq (b := 10) (by omega) (by decide)).mp z1
      · right
        constructor
        · apply Classical.byContradiction
          intro n
          exact z1 ((nI_ltI (b := 32) (by omega) (by decide)).mpr (by omega))
        · apply Classical.byContradiction
          intro n
          exact z3 ((nI_ltI (a := 126) (by decide) (by omega)).mpr (by omega))
    · rw [if_neg z2]
      exact hQ.2 i (by have : i < Q.1 + 1 := hi; omega)
  · rw [if_neg z]; exact hQ
theorem VTa_L {p : Int64} : ∀ {k : Nat} {Q : Nat × (Nat → Int32)}, VTa Q → VTa (fdL p k Q)
  | 0, _, h => h
  | k + 1, Q, h => VTa_L (k := k) (VTa_1 (by_ex p k) h)
theorem le_8k : ∀ j, j < 8 → nI (8 * (j + 1)) + (-8 : Int32) = nI (8 * j) := by decide +kernel
/-- the loop's states: 56, 48 .. 0, -8 -/
def fs8 (k : Nat) : Int32 := if k < 8 then nI (8 * (7 - k)) else -8
theorem fs8_s : ∀ k, k < 8 → fs8 k = nI (8 * (7 - k)) ∧ ¬ fs8 k < 0 ∧ fs8 k + (-8 : Int32) = fs8 (k + 1) := by decide +kernel
theorem ks_add {Q : Nat × (Nat → Int32)} {σ : MM} (p : Int64) (vQ : VTa Q) (hQ : CTa Q σ) : wp (FX5_addBytes 1 p) σ (fun _ τ => CTa (fdL p 8 Q) τ ∧ eqr (fun b j => (b = 1 ∧ j = 1) ∨ b = 2) σ τ) := by
  unfold FX5_addBytes
  rw [r1_0]
  refine ws_it (fun k s τ => s = fs8 k ∧ ∃ Q2, VTa Q2 ∧ CTa Q2 τ ∧ fdL p (8 - k) Q2 = fdL p 8 Q ∧ eqr (fun b j => (b = 1 ∧ j = 1) ∨ b = 2) σ τ) 8 (by decide) ⟨rfl, Q, vQ, hQ, rfl, eqr_rf⟩ ?_
  rintro k s τ hk ⟨rfl, Q2, vQ2, hQ2, hf, hq⟩
  by_cases hkn : k < 8
  · obtain ⟨e1, e2, e3⟩ := fs8_s k hkn
    rw [if_neg e2, lt_eq]
    have eb : ((((p.toUInt64 >>> ((fs8 k).toInt64.toUInt64 &&& Int64.toUInt64 63)).toInt64).toInt32) &&& (255 : Int32)) = bych p (7 - k) := by
      rw [e1, byC _ (by omega)]
      rfl
    rw [eb]
    have hf' : fdL p (8 - (k + 1)) (fd1 Q2 (bych p (7 - k))) = fdL p 8 Q := by
      rw [← hf, show 8 - k = (7 - k) + 1 by omega, show 8 - (k + 1) = 7 - k by omega]
      rfl
    obtain ⟨q, hq256, eq⟩ := by_ex p (7 - k)
    have v1 := VTa_1 (by_ex p (7 - k)) vQ2
    rw [eq] at hf' v1 ⊢
    have nxt : ∀ υ : MM, CTa (fd1 Q2 (nI q)) υ → eqr (fun b j => (b = 1 ∧ j = 1) ∨ b = 2) σ υ → wp (lt (fs8 k + (-8 : Int32)) (fun y9 => pu (Sum.inl y9)) : PP (Int32 ⊕ Unit)) υ (fun r υ => (∃ a', r = .inl a' ∧ k < 8 ∧ (a' = fs8 (k + 1) ∧ ∃ Q3, VTa Q3 ∧ CTa Q3 υ ∧ fdL p (8 - (k + 1)) Q3 = fdL p 8 Q ∧ eqr (fun b j => (b = 1 ∧ j = 1) ∨ b = 2) σ υ)) ∨ (∃ b, r = .inr b ∧ wp ((fun (v10 : Unit) => pu ()) b) υ (fun _ τ => CTa (fdL p 8 Q) τ ∧ eqr (fun b j => (b = 1 ∧ j = 1) ∨ b = 2) σ τ))) := by
      intro υ h1 h2
      rw [lt_eq]
      exact wp_pu (Or.inl ⟨_, rfl, hkn, e3, _, v1, h1, hf', h2⟩)
    have add : isSg (nI q) = true → wp (bd (gI 1 1) (fun x5 => if (1000 : Int32) ≤ x5 then pu () else bd (gI 1 1) (fun x6 => bd (uI 2 1000 x6 (((nI q).toUInt32 % 65536).toInt32)) (fun (_ : Unit) => bd (gI 1 1) (fun x7 => bd (sI 1 1 (x7 + (1 : Int32))) (fun (_ : Unit) => pu ())))))) τ (fun _ υ => CTa (fd1 Q2 (nI q)) υ ∧ eqr (fun b j => (b = 1 ∧ j = 1) ∨ b = 2) σ υ) := by
      intro hs
      have vn := vQ2.1
      refine ws_gv hQ2.1 ?_
      by_cases z : Q2.1 < 1000
      · rw [if_neg (show ¬ (1000 : Int32) ≤ nI Q2.1 from nle_n (b := 1000) z (by decide)), (sb_byte q hq256).2.1]
        refine ws_gv hQ2.1 (ws_u z (by decide) (ws_gv (x := nI Q2.1) ((mm_ne (by omega)).trans hQ2.1) (ws_s (wp_pu ?_))))
        have e4 : fd1 Q2 (nI q) = (Q2.1 + 1, fun i => if i = Q2.1 then nI q else Q2.2 i) := by
          unfold fd1
          rw [if_pos (by rw [hs]; simp [z])]
        rw [e4]
        refine ⟨⟨mm_at.trans (nI_1 _), fun i hi => ?_⟩, eqr_tr hq (eqr_tr (eqr_up (by omega)) (eqr_up (σ := (up2 τ.1 2 Q2.1 (nI q), τ.2)) (by omega)))⟩
        have hi' : i < Q2.1 + 1 := hi
        show up2 (up2 τ.1 2 Q2.1 (nI q)) 1 1 (nI Q2.1 + 1) 2 i = if i = Q2.1 then nI q else Q2.2 i
        rw [up2_ne (by omega)]
        by_cases z2 : i = Q2.1
        · subst z2; rw [up2_at, if_pos rfl]
        · rw [up2_ne (by omega), if_neg z2]; exact hQ2.2 i (by omega)
      · rw [if_pos (show (1000 : Int32) ≤ nI Q2.1 from nI_le (a := 1000) (by omega) (by omega))]
        refine wp_pu ⟨?_, hq⟩
        have e4 : fd1 Q2 (nI q) = Q2 := by
          unfold fd1
          rw [if_neg (by simp [z])]
        rw [e4]; exact hQ2
    have skip : ¬ isSg (nI q) = true → CTa (fd1 Q2 (nI q)) τ := by
      intro hs
      have e4 : fd1 Q2 (nI q) = Q2 := by
        unfold fd1
        rw [if_neg (by simp [hs])]
      rw [e4]; exact hQ2
    refine wp_bd (Q := fun _ υ => CTa (fd1 Q2 (nI q)) υ ∧ eqr (fun b j => (b = 1 ∧ j = 1) ∨ b = 2) σ υ) ?_ (fun _ υ h => nxt υ h.1 h.2)
    rw [jn_eq]
    by_cases z1 : nI q = 10
    · rw [if_pos z1]; exact add (by simp [isSg, z1])
    · rw [if_neg z1]
      by_cases z2 : nI q < 32
      · rw [if_pos z2]; exact wp_pu ⟨skip (by simp [isSg, z1, z2]), hq⟩
      · rw [if_neg z2]
        by_cases z3 : 126 < nI q
        · rw [if_pos z3]; exact wp_pu ⟨skip (by simp [isSg, z1, z3]), hq⟩
        · rw [if_neg z3]; exact add (by simp [isSg, z2, z3])
  · have : k = 8 := by omega
    subst this
    rw [if_pos (show fs8 8 < 0 by decide)]
    have : Q2 = fdL p 8 Q := hf
    rw [← this]
    exact wp_pu (Or.inr ⟨_, rfl, wp_pu ⟨hQ2, hq⟩⟩)
theorem ms_lay {Q : Nat × (Nat → Int32)} {σ : MM} (p : Int64) (vQ : VTa Q) (hQ : MTa Q σ) : wp (FX12_lay 249 p) σ (fun _ τ => MTa (fdL p 8 Q) τ ∧ eqr (fun b j => (b = 249 ∧ j = 2) ∨ b = 250) σ τ) := by
  unfold FX12_lay
  rw [r249_1]
  refine ws_it (fun k s τ => s = fs8 k ∧ ∃ Q2, VTa Q2 ∧ MTa Q2 τ ∧ fdL p (8 - k) Q2 = fdL p 8 Q ∧ eqr (fun b j => (b = 249 ∧ j = 2) ∨ b = 250) σ τ) 8 (by decide) ⟨rfl, Q, vQ, hQ, rfl, eqr_rf⟩ ?_
  rintro k s τ hk ⟨rfl, Q2, vQ2, hQ2, hf, hq⟩
  by_cases hkn : k < 8
  · obtain ⟨e1, e2, e3⟩ := fs8_s k hkn
    rw [if_neg e2, lt_eq]
    have eb : (((p >>> ((fs8 k).toInt64 &&& 63)).toInt32) &&& (255 : Int32)) = bych p (7 - k) := by
      rw [e1]
      rfl
    rw [eb]
    have hf' : fdL p (8 - (k + 1)) (fd1 Q2 (bych p (7 - k))) = fdL p 8 Q := by
      rw [← hf, show 8 - k = (7 - k) + 1 by omega, show 8 - (k + 1) = 7 - k by omega]
      rfl
    obtain ⟨q, hq256, eq⟩ := by_ex p (7 - k)
    have v1 := VTa_1 (by_ex p (7 - k)) vQ2
    rw [eq] at hf' v1 ⊢
    have add : isSg (nI q) = true → wp (bd (gI 249 2) (fun x5 => if (1000 : Int32) ≤ x5 then pu () else bd (gI 249 2) (fun x6 => bd (uI 250 1000 x6 (nI q)) (fun (_ : Unit) => bd (gI 249 2) (fun x7 => bd (sI 249 2 (x7 + (1 : Int32))) (fun (_ : Unit) => pu ())))))) τ (fun _ υ => MTa (fd1 Q2 (nI q)) υ ∧ eqr (fun b j => (b = 249 ∧ j = 2) ∨ b = 250) σ υ) := by
      intro hs
      have vn := vQ2.1
      refine ws_gv hQ2.1 ?_
      by_cases z : Q2.1 < 1000
      · rw [if_neg (show ¬ (1000 : Int32) ≤ nI Q2.1 from nle_n (b := 1000) z (by decide))]
        refine ws_gv hQ2.1 (ws_u z (by decide) (ws_gv (x := nI Q2.1) ((mm_ne (by omega)).trans hQ2.1) (ws_s (wp_pu ?_))))
        have e4 : fd1 Q2 (nI q) = (Q2.1 + 1, fun i => if i = Q2.1 then nI q else Q2.2 i) := by
          unfold fd1
          rw [if_pos (by rw [hs]; simp [z])]
        rw [e4]
        refine ⟨⟨mm_at.trans (nI_1 _), fun i hi => ?_⟩, eqr_tr hq (eqr_tr (eqr_up (by omega)) (eqr_up (σ := (up2 τ.1 250 Q2.1 (nI q), τ.2)) (by omega)))⟩
        have hi' : i < Q2.1 + 1 := hi
        show up2 (up2 τ.1 250 Q2.1 (nI q)) 249 2 (nI Q2.1 + 1) 250 i = if i = Q2.1 then nI q else Q2.2 i
        rw [up2_ne (by omega)]
        by_cases z2 : i = Q2.1
        · subst z2; rw [up2_at, if_pos rfl]
        · rw [up2_ne (by omega), if_neg z2]; exact hQ2.2 i (by omega)
      · rw [if_pos (show (1000 : Int32) ≤ nI Q2.1 from nI_le (a := 1000) (by omega) (by omega))]
        refine wp_pu ⟨?_, hq⟩
        have e4 : fd1 Q2 (nI q) = Q2 := by
          unfold fd1
          rw [if_neg (by simp [z])]
        rw [e4]; exact hQ2
    have skip : ¬ isSg (nI q) = true → MTa (fd1 Q2 (nI q)) τ := by
      intro hs
      have e4 : fd1 Q2 (nI q) = Q2 := by
        unfold fd1
        rw [if_neg (by simp [hs])]
      rw [e4]; exact hQ2
    refine wp_bd (Q := fun _ υ => MTa (fd1 Q2 (nI q)) υ ∧ eqr (fun b j => (b = 249 ∧ j = 2) ∨ b = 250) σ υ) ?_ (fun _ υ h => by rw [lt_eq]; exact wp_pu (Or.inl ⟨_, rfl, hkn, e3, _, v1, h.1, hf', h.2⟩))
    rw [jn_eq]
    by_cases z1 : nI q = 10
    · rw [if_pos z1]; exact add (by simp [isSg, z1])
    · rw [if_neg z1]
      by_cases z2 : nI q < 32
      · rw [if_pos z2]; exact wp_pu ⟨skip (by simp [isSg, z1, z2]), hq⟩
      · rw [if_neg z2]
        by_cases z3 : 126 < nI q
        · rw [if_pos z3]; exact wp_pu ⟨skip (by simp [isSg, z1, z3]), hq⟩
        · rw [if_neg z3]; exact add (by simp [isSg, z2, z3])
  · have : k = 8 := by omega
    subst this
    rw [if_pos (show fs8 8 < 0 by decide)]
    have : Q2 = fdL p 8 Q := hf
    rw [← this]
    exact wp_pu (Or.inr ⟨_, rfl, wp_pu ⟨hQ2, hq⟩⟩)
def taA (A : AB) (Q : Nat × (Nat → Int32)) : AB := (A.1, A.2.1, A.2.2.1, A.2.2.2.1, A.2.2.2.2.1, Q, A.2.2.2.2.2.2)
def fe3 (Q : Nat × (Nat → Int32)) (a b c : Int64) : Nat × (Nat → Int32) := fdL c 8 (fdL b 8 (fdL a 8 Q))
theorem CA_ta {A : AB} {Q : Nat × (Nat → Int32)} {σ τ : MM} (h : CA A σ) (hq : eqr (fun b j => (b = 1 ∧ j = 1) ∨ b = 2) σ τ) (hQ : CTa Q τ) : CA (taA A Q) τ := by
  obtain ⟨h1, h2, h3, h4, h5, h6, h7⟩ := h
  exact ⟨CTn_r hq (fun b j _ _ => by omega) h1, ⟨CSk_r hq (fun j => by omega) (by omega) h2.1, CWa_r hq (fun j => by omega) h2.2.1, CTo_r hq ⟨by omega, fun j => by omega⟩ h2.2.2⟩, CPa_r hq (fun b j _ _ => by omega) h3, CPl_r hq (fun b j _ => by omega) h4, CMa_r hq (fun b j _ _ => by omega) h5, hQ, CNa_r hq h7⟩
theorem MA_ta {A : AB} {Q : Nat × (Nat → Int32)} {σ τ : MM} (hV : VA A) (h : MA A σ) (hq : eqr (fun b j => (b = 249 ∧ j = 2) ∨ b = 250) σ τ) (hQ : MTa Q τ) : MA (taA A Q) τ := by
  obtain ⟨h1, h2, h3, h4, h5, h6, h7⟩ := h
  have v6 := hV.1.1.2.2.1
  exact ⟨MTn_r hq (fun b j _ _ => by omega) h1, ⟨MSk_r hq v6 (fun j _ _ => by omega) h2.1, MWa_r hq (fun j _ _ => by omega) h2.2.1, MTo_r hq hV.2.1.2.2.1 (fun j _ _ => by omega) h2.2.2⟩, MPa_r v6 hq (fun j _ _ => by omega) (by omega) h3, MPl_r hq hV.2.2.2.1.1 (fun j _ => by omega) h4, MMa_r v6 hV.2.2.2.2.1 hq ⟨fun j => by omega, fun j _ _ => by omega⟩ h5, hQ, MNa_r hq ⟨by omega, fun j => by omega⟩ h7⟩
theorem c_feed {A : AB} {σ : MM} (hV : VA A) (hA : CA A σ) (a b c : Int64) : wp (FX11_feed 0 a b c) σ (fun r τ => r = nI (fe3 A.2.2.2.2.2.1 a b c).1 ∧ CA (taA A (fe3 A.2.2.2.2.2.1 a b c)) τ ∧ ofC σ τ) := by
  have vQ := hV.2.2.2.2.2.1
  unfold FX11_feed
  rw [r0_0]
  refine wp_bd (ks_add a vQ hA.2.2.2.2.2.1) ?_
  rintro _ τ1 ⟨h1, q1⟩
  refine wp_bd (ks_add b (VTa_L vQ) h1) ?_
  rintro _ τ2 ⟨h2, q2⟩
  refine wp_bd (ks_add c (VTa_L (VTa_L vQ)) h2) ?_
  rintro _ τ3 ⟨h3, q3⟩
  have hq := eqr_tr q1 (eqr_tr q2 q3)
  exact ws_gv h3.1 (wp_pu ⟨rfl, CA_ta hA hq h3, ofC_r hq (fun b j _ => by omega)⟩)
theorem m_feed {A : AB} {σ : MM} (hV : VA A) (hA : MA A σ) (a b c : Int64) : wp (FX12_feed 249 a b c) σ (fun r τ => r = nI (fe3 A.2.2.2.2.2.1 a b c).1 ∧ MA (taA A (fe3 A.2.2.2.2.2.1 a b c)) τ ∧ ofM σ τ) := by
  have vQ := hV.2.2.2.2.2.1
  unfold FX12_feed
  refine m_th2 hV hA ?_
  intro σ hA
  refine wp_bd (ms_lay a vQ hA.2.2.2.2.2.1) ?_
  rintro _ τ1 ⟨h1, q1⟩
  refine wp_bd (ms_lay b (VTa_L vQ) h1) ?_
  rintro _ τ2 ⟨h2, q2⟩
  refine wp_bd (ms_lay c (VTa_L (VTa_L vQ)) h2) ?_
  rintro _ τ3 ⟨h3, q3⟩
  have hq := eqr_tr q1 (eqr_tr q2 q3)
  exact ws_gv h3.1 (wp_pu ⟨rfl, MA_ta hV hA hq h3, ofM_r hq (fun b j _ => by omega)⟩)
theorem ok_0 {σ : MM} (h : Inv σ) (q : Nat → Int32) : okC (fun chk => TL_0 chk q) σ := by
  obtain ⟨A, hV, hC, hM⟩ := h
  have vQ := hV.2.2.2.2.2.1
  have h2 : ∀ a b c : Int64, VA (taA A (fe3 A.2.2.2.2.2.1 a b c)) := fun a b c => ⟨hV.1, hV.2.1, hV.2.2.1, hV.2.2.2.1, hV.2.2.2.2.1, VTa_L (VTa_L (VTa_L vQ)), hV.2.2.2.2.2.2⟩
  unfold TL_0
  exact okC_of (eq := fun x y => x = y) rfl hV (h2 _ _ _) hM (c_feed hV hC _ _ _) (fun τ hM => m_feed hV hM _ _ _)
