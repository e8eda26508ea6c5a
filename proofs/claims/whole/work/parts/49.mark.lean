/-! ===== marks ===== -/
theorem mk_rf : ∀ m, m < 4 → rf 144 m = 145 + 17 * m ∧ rf (145 + 17 * m) 0 = 147 + 17 * m ∧ rf (145 + 17 * m) 1 = 146 + 17 * m ∧ rf (145 + 17 * m) 2 = 152 + 17 * m ∧ rf (152 + 17 * m) 0 = 153 + 17 * m ∧ rf (152 + 17 * m) 1 = 154 + 17 * m ∧ rf (152 + 17 * m) 2 = 155 + 17 * m := by decide +kernel
theorem mk_ob : ∀ m, m < 4 → (decide (147 + 17 * m < 270) && decide (sh (147 + 17 * m) = (4, 0))) = true := by decide +kernel
theorem ks_copyT {D : TO} {σ : MM} {a b : Nat} (h6 : D.1 ≤ 6) (hd : a + 4 ≤ b ∨ b + 4 ≤ a) (a0 : rf a 0 = a + 1) (a1 : rf a 1 = a + 2) (a2 : rf a 2 = a + 3) (b0 : rf b 0 = b + 1) (b1 : rf b 1 = b + 2) (b2 : rf b 2 = b + 3) (hD : CTo b D σ) : ∃ τ, FX6_copyFrom a b σ = some ((), τ) ∧ CTo a D τ ∧ eqr (fun r j => (r = a ∧ j = 3) ∨ r = a + 1 ∨ r = a + 2 ∨ r = a + 3) σ τ := by
  refine ⟨(up2 (cpf (cpf (cpf σ.1 (b + 1) (a + 1) 6) (b + 2) (a + 2) 6) (b + 3) (a + 3) 6) a 3 (σ.1 b 3), σ.2), ?_, ⟨?_, fun c hc => ?_⟩, fun r j hr => ?_, rfl⟩
  · unfold FX6_copyFrom
    rw [a0, a1, a2, b0, b1, b2]
    simp only [bd, cpI, gI, sI, pu]
    have : cpf (cpf (cpf σ.1 (b + 1) (a + 1) 6) (b + 2) (a + 2) 6) (b + 3) (a + 3) 6 b 3 = σ.1 b 3 := by
      unfold cpf
      rw [if_neg (by omega), if_neg (by omega), if_neg (by omega)]
    rw [this]
  · show up2 _ a 3 _ a 3 = _
    rw [up2_at]
    exact hD.1
  · obtain ⟨e1, e2, e3⟩ := hD.2 c hc
    show up2 _ a 3 _ (a + 1) c = _ ∧ up2 _ a 3 _ (a + 2) c = _ ∧ up2 _ a 3 _ (a + 3) c = _
    rw [up2_ne (by omega), up2_ne (by omega), up2_ne (by omega)]
    have k1 : cpf (cpf (cpf σ.1 (b + 1) (a + 1) 6) (b + 2) (a + 2) 6) (b + 3) (a + 3) 6 (a + 1) c = σ.1 (b + 1) c := by
      unfold cpf
      rw [if_neg (by omega), if_neg (by omega), if_pos ⟨rfl, by omega⟩]
    have k2 : cpf (cpf (cpf σ.1 (b + 1) (a + 1) 6) (b + 2) (a + 2) 6) (b + 3) (a + 3) 6 (a + 2) c = σ.1 (b + 2) c := by
      unfold cpf
      rw [if_neg (by omega), if_pos ⟨rfl, by omega⟩, if_neg (by omega)]
    have k3 : cpf (cpf (cpf σ.1 (b + 1) (a + 1) 6) (b + 2) (a + 2) 6) (b + 3) (a + 3) 6 (a + 3) c = σ.1 (b + 3) c := by
      unfold cpf
      rw [if_pos ⟨rfl, by omega⟩, if_neg (by omega), if_neg (by omega)]
    rw [k1, k2, k3]
    exact ⟨e1, e2, e3⟩
  · show up2 _ a 3 _ r j = σ.1 r j
    rw [up2_ne (by omega)]
    unfold cpf
    rw [if_neg (by omega), if_neg (by omega), if_neg (by omega)]
theorem cp_W {W : Nat → Int32} {σ : MM} {a b : Nat} (hW : CWa b W σ) : CWa a W (cpf σ.1 b a 4, σ.2) ∧ eqr (fun r _ => r = a) σ (cpf σ.1 b a 4, σ.2) := by
  refine ⟨fun p hp => ?_, fun r j hr => ?_, rfl⟩
  · show cpf σ.1 b a 4 a p = W p
    unfold cpf
    rw [if_pos ⟨rfl, hp⟩]
    exact hW p hp
  · show cpf σ.1 b a 4 r j = _
    unfold cpf
    rw [if_neg (by omega)]
theorem ks_lay {T : TW} {K : MK} {σ : MM} {m : Nat} (h6 : T.1 2 ≤ 6) (hn : K.2.2.1 ≤ 6) (hm : m < 4) (hK : CMk T 38 131 134 K σ) : wp (FX1_lay (145 + 17 * m) 38 130 134) σ (fun _ τ => CMk T (147 + 17 * m) (146 + 17 * m) (152 + 17 * m) K τ ∧ τ.1 (145 + 17 * m) 3 = 1 ∧ eqr (fun b _ => 145 + 17 * m ≤ b ∧ b < 162 + 17 * m) σ τ) := by
  obtain ⟨-, f0, f1, f2, f3, f4, f5⟩ := mk_rf m hm
  unfold FX1_lay
  rw [f0, f1, f2, r130_0]
  obtain ⟨τ, e, hS, hq⟩ := ks_copy h6 (ob_of (mk_ob m hm)) o38 (by omega) hK.1
  refine wp_eq e ?_
  obtain ⟨hW, hq2⟩ := cp_W (a := 146 + 17 * m) (CWa_r hq (fun j => by omega) hK.2.1)
  refine wp_eq (show cpI 131 (146 + 17 * m) 4 τ = some ((), (cpf τ.1 131 (146 + 17 * m) 4, τ.2)) from rfl) ?_
  generalize ((cpf τ.1 131 (146 + 17 * m) 4, τ.2) : MM) = τ2 at hW hq2
  obtain ⟨τ3, e3, hD, hq3⟩ := ks_copyT (a := 152 + 17 * m) (b := 134) hn (by omega) (f3.trans (by omega)) (f4.trans (by omega)) (f5.trans (by omega)) r134_0 r134_1 r134_2 (CTo_r hq2 ⟨by omega, fun j => by omega⟩ (CTo_r hq ⟨by omega, fun j => by omega⟩ hK.2.2))
  refine wp_eq e3 (ws_s (wp_pu ⟨?_, mm_at, ?_⟩))
  · have hq4 : eqr (fun b j => b = 145 + 17 * m ∧ j = 3) τ3 (up2 τ3.1 (145 + 17 * m) 3 1, τ3.2) := eqr_up ⟨rfl, rfl⟩
    exact ⟨CSk_r hq4 (fun j => by omega) (by omega) (CSk_r hq3 (fun j => by omega) (by omega) (CSk_r hq2 (fun j => by omega) (by omega) hS)), CWa_r hq4 (fun j => by omega) (CWa_r hq3 (fun j => by omega) hW), CTo_r hq4 ⟨by omega, fun j => by omega⟩ hD⟩
  · exact eqr_tr (eqr_mono hq (fun b j q => by omega)) (eqr_tr (eqr_mono hq2 (fun b j q => by omega)) (eqr_tr (eqr_mono hq3 (fun b j q => by omega)) (eqr_up (by omega))))
theorem ks_goBack {T : TW} {K : MK} {σ : MM} {m : Nat} (h6 : T.1 2 ≤ 6) (hn : K.2.2.1 ≤ 6) (hm : m < 4) (hK : CMk T (147 + 17 * m) (146 + 17 * m) (152 + 17 * m) K σ) : wp (FX1_goBack (145 + 17 * m) 38 130 134) σ (fun _ τ => CMk T 38 131 134 K τ ∧ eqr (fun b _ => (38 ≤ b ∧ b ≤ 41) ∨ (131 ≤ b ∧ b ≤ 137)) σ τ) := by
  obtain ⟨-, f0, f1, f2, f3, f4, f5⟩ := mk_rf m hm
  unfold FX1_goBack FX9_copyFrom
  rw [f0, f1, f2, r130_0]
  obtain ⟨τ, e, hS, hq⟩ := ks_copy h6 o38 (ob_of (mk_ob m hm)) (by omega) hK.1
  refine wp_eq e ?_
  obtain ⟨hW, hq2⟩ := cp_W (a := 131) (CWa_r hq (fun j => by omega) hK.2.1)
  refine wp_eq (show bd (cpI (146 + 17 * m) 131 4) (fun (_ : Unit) => pu ()) τ = some ((), (cpf τ.1 (146 + 17 * m) 131 4, τ.2)) from rfl) ?_
  generalize ((cpf τ.1 (146 + 17 * m) 131 4, τ.2) : MM) = τ2 at hW hq2
  obtain ⟨τ3, e3, hD, hq3⟩ := ks_copyT (b := 152 + 17 * m) (a := 134) hn (by omega) r134_0 r134_1 r134_2 (f3.trans (by omega)) (f4.trans (by omega)) (f5.trans (by omega)) (CTo_r hq2 ⟨by omega, fun j => by omega⟩ (CTo_r hq ⟨by omega, fun j => by omega⟩ hK.2.2))
  refine wp_eq e3 (wp_pu ⟨?_, ?_⟩)
  · exact ⟨CSk_r hq3 (fun j => by omega) (by omega) (CSk_r hq2 (fun j => by omega) (by omega) hS), CWa_r hq3 (fun j => by omega) hW, hD⟩
  · exact eqr_tr (eqr_mono hq (fun b j q => by omega)) (eqr_tr (eqr_mono hq2 (fun b j q => by omega)) (eqr_mono hq3 (fun b j q => by omega)))
theorem ms_copyK {T : TW} {K : MK} {σ : MM} {f t : Nat} (h6 : T.1 2 ≤ 6) (hn : K.2.2.1 ≤ 6) (hf : f + 42 ≤ 966) (ht : t + 42 ≤ 966) (hd : f + 42 ≤ t ∨ t + 42 ≤ f) (hK : MMk T f K σ) : wp (FX12_copies 249 (nI f) (nI t) (42 : Int32)) σ (fun _ τ => MMk T t K τ ∧ eqr (fun r j => r = 265 ∧ t ≤ j ∧ j < t + 42) σ τ) := by
  refine wp_mono (ms_copies (n := 42) hf ht hd) (fun _ τ q => ⟨⟨⟨?_, fun c hc => ?_⟩, fun p hp => ?_, ?_, fun i hi => ?_⟩, q.1⟩)
  · have := q.2 0 (by decide)
    exact this.trans hK.1.1
  · obtain ⟨e1, e2, e3⟩ := hK.1.2 c hc
    have k1 := q.2 (1 + c) (by omega)
    have k2 := q.2 (7 + c) (by omega)
    have k3 := q.2 (13 + c) (by omega)
    rw [← Nat.add_assoc, ← Nat.add_assoc] at k1 k2 k3
    exact ⟨k1.trans e1, k2.trans e2, k3.trans e3⟩
  · have k1 := q.2 (19 + p) (by omega)
    rw [← Nat.add_assoc, ← Nat.add_assoc] at k1
    exact k1.trans (hK.2.1 p hp)
  · exact (q.2 23 (by decide)).trans hK.2.2.1
  · obtain ⟨e1, e2, e3⟩ := hK.2.2.2 i hi
    have k1 := q.2 (24 + 3 * i) (by omega)
    have k2 := q.2 (25 + 3 * i) (by omega)
    have k3 := q.2 (26 + 3 * i) (by omega)
    rw [← Nat.add_assoc, ← Nat.add_assoc] at k1 k2 k3
    exact ⟨k1.trans e1, k2.trans e2, k3.trans e3⟩
def laG (G : (Nat → Bool) × (Nat → MK)) (m : Nat) (K : MK) : (Nat → Bool) × (Nat → MK) := (fun i => if i = m then true else G.1 i, fun i => if i = m then K else G.2 i)
/-- the mark is one, and if one goes back it is laid -/
def mkB (A : AB) (x : Int32) (b : Bool) : Bool := inN x 4 && (!b || A.2.2.2.2.1.1 x.toNatClampNeg)
def mkA (A : AB) (x : Int32) (b : Bool) : AB := if mkB A x b = true then (if b = true then kA A (A.2.2.2.2.1.2 x.toNatClampNeg) 0 A.2.2.1.2 A.2.2.2.2.1 else kA A A.2.1 A.2.2.1.1 A.2.2.1.2 (laG A.2.2.2.2.1 x.toNatClampNeg A.2.1)) else A
theorem VA_mk {A : AB} {x : Int32} {b : Bool} (hV : VA A) : VA (mkA A x b) := by
  unfold mkA
  by_cases q : mkB A x b = true
  · rw [if_pos q]
    unfold mkB at q
    rw [Bool.and_eq_true] at q
    obtain ⟨k, hk, rfl⟩ := inN_ex (by decide) q.1
    rw [cl_n (by omega)] at q ⊢
    cases b
    · rw [if_neg (by decide)]
      refine VA_k hV hV.2.1 hV.2.2.1 (fun m hm g => ?_)
      by_cases z : m = k
      · have : (laG A.2.2.2.2.1 k A.2.1).2 m = A.2.1 := by simp [laG, z]
        rw [this]; exact hV.2.1
      · have e1 : (laG A.2.2.2.2.1 k A.2.1).2 m = A.2.2.2.2.1.2 m := by simp [laG, z]
        have e2 : (laG A.2.2.2.2.1 k A.2.1).1 m = A.2.2.2.2.1.1 m := by simp [laG, z]
        rw [e2] at g
        rw [e1]; exact hV.2.2.2.2.1 m hm g
    · rw [if_pos rfl]
      exact VA_k hV (hV.2.2.2.2.1 k hk (by simpa using q.2)) (fun i hi => by omega) hV.2.2.2.2.1
  · rw [if_neg q]; exact hV
theorem inN4 (x : Int32) : inN x 4 = (decide (¬ x < 0) && decide (x < 4)) := by
  unfold inN
  congr 1
  apply decide_eq_decide.mpr
  exact Int32.not_le
theorem c_mark {A : AB} {σ : MM} (hV : VA A) (hA : CA A σ) (x : Int32) (b : Bool) : wp (FX11_mark 0 x (b2i b)) σ (fun r τ => r = mkB A x b ∧ CA (mkA A x b) τ ∧ ofC σ τ) := by
  have v6 := hV.1.1.2.2.1
  unfold FX11_mark
  rw [r0_5, r0_7, r0_8, r0_9, r0_10]
  have no : ¬ mkB A x b = true → wp (zb (0 : Int32)) σ (fun r τ => r = mkB A x b ∧ CA (mkA A x b) τ ∧ ofC σ τ) := by
    intro q
    unfold mkA
    rw [if_neg q]
    exact ws_z0 ⟨by simpa using q, hA, ofC_rf⟩
  by_cases q1 : x < 0
  · rw [if_pos q1]
    exact no (fun h => by simp [mkB, inN, q1] at h)
  rw [if_neg q1]
  by_cases q2 : x < 4
  · rw [if_pos q2]
    have hin : inN x 4 = true := by rw [inN4]; simp [q1, q2]
    obtain ⟨k, hk, rfl⟩ := inN_ex (by decide) hin
    refine wp_eq (show gd (ib (nI k) 4 = true) σ = some ((), σ) by unfold gd; rw [if_pos (ib_n hk (by decide))]) ?_
    rw [cl_n (by omega), (mk_rf k hk).1]
    have eB : mkB A (nI k) b = (!b || A.2.2.2.2.1.1 k) := by unfold mkB; rw [hin, cl_n (by omega)]; simp
    cases b
    · rw [if_pos (show b2i false = 0 from rfl)]
      refine wp_bd (ks_lay v6 hV.2.1.2.2.1 hk hA.2.1) ?_
      rintro _ τ ⟨hK, h3, hq⟩
      have hb : mkB A (nI k) false = true := by rw [eB]; rfl
      unfold mkA
      rw [if_pos hb, if_neg (by decide), cl_n (by omega)]
      refine ws_z1 ⟨hb.symm, ?_, ofC_r hq (fun b j q => by omega)⟩
      refine CA_k hA hq (fun b j q => by omega) ⟨CSk_r hq (fun j => by omega) (by omega) hA.2.1.1, CWa_r hq (fun j => by omega) hA.2.1.2.1, CTo_r hq ⟨by omega, fun j => by omega⟩ hA.2.1.2.2⟩ (CPa_r hq (fun b j _ _ => by omega) hA.2.2.1) (fun m hm => ?_)
      by_cases z : m = k
      · subst z
        have e1 : (laG A.2.2.2.2.1 m A.2.1).2 m = A.2.1 := by simp [laG]
        have e2 : (laG A.2.2.2.2.1 m A.2.1).1 m = true := by simp [laG]
        rw [e1, e2]
        exact ⟨h3, fun _ => hK⟩
      · have e1 : (laG A.2.2.2.2.1 k A.2.1).2 m = A.2.2.2.2.1.2 m := by simp [laG, z]
        have e2 : (laG A.2.2.2.2.1 k A.2.1).1 m = A.2.2.2.2.1.1 m := by simp [laG, z]
        rw [e1, e2]
        obtain ⟨g1, g2⟩ := hA.2.2.2.2.1 m hm
        refine ⟨(hq.1 _ _ (by omega)).trans g1, fun g => ?_⟩
        obtain ⟨k1, k2, k3⟩ := g2 g
        exact ⟨CSk_r hq (fun j => by omega) (by omega) k1, CWa_r hq (fun j => by omega) k2, CTo_r hq ⟨by omega, fun j => by omega⟩ k3⟩
    · rw [if_neg (show ¬ b2i true = 0 by decide)]
      obtain ⟨g1, g2⟩ := hA.2.2.2.2.1 k hk
      refine ws_gv g1 ?_
      by_cases g : A.2.2.2.2.1.1 k = true
      · rw [if_neg (bt g)]
        refine wp_bd (ks_goBack v6 (hV.2.2.2.2.1 k hk g).2.2.1 hk (g2 g)) ?_
        rintro _ τ ⟨hK, hq⟩
        have hb : mkB A (nI k) true = true := by rw [eB, g]; rfl
        unfold mkA
        rw [if_pos hb, if_pos rfl, cl_n (by omega)]
        refine ws_s (ws_z1 ?_)
        have hq2 : eqr (fun b j => b = 48 ∧ j = 1) τ (up2 τ.1 48 1 0, τ.2) := eqr_up ⟨rfl, rfl⟩
        have hq3 : eqr (fun b j => ((38 ≤ b ∧ b ≤ 41) ∨ (131 ≤ b ∧ b ≤ 137)) ∨ (b = 48 ∧ j = 1)) σ (up2 τ.1 48 1 0, τ.2) := eqr_tr (eqr_mono hq (fun b j q => Or.inl q)) (eqr_mono hq2 (fun b j q => Or.inr q))
        refine ⟨hb.symm, ?_, ofC_r hq3 (fun b j q => by omega)⟩
        obtain ⟨nx, p1, p2, p3, p4, p5⟩ := hA.2.2.1
        exact CA_k hA hq3 (fun b j q => by omega) ⟨CSk_r hq2 (fun j => by omega) (by omega) hK.1, CWa_r hq2 (fun j => by omega) hK.2.1, CTo_r hq2 ⟨by omega, fun j => by omega⟩ hK.2.2⟩ ⟨nx, p1, by omega, mm_at, (hq3.1 _ _ (by omega)).trans p4, fun i hi => by omega⟩ (CMa_r hq3 (fun b j _ _ => by omega) hA.2.2.2.2.1)
      · rw [if_pos (bf g)]
        exact no (fun h => by rw [eB] at h; simp [g] at h)
  · rw [if_neg q2]
    exact no (fun h => by
      unfold mkB at h
      rw [Bool.and_eq_true, inN4, Bool.and_eq_true, decide_eq_true_eq, decide_eq_true_eq] at h
      exact q2 h.1.2)
theorem m_mark {A : AB} {σ : MM} (hV : VA A) (hA : MA A σ) (x : Int32) (b : Bool) : wp (FX12_mark 249 x (b2i b)) σ (fun r τ => r = mkB A x b ∧ MA (mkA A x b) τ ∧ ofM σ τ) := by
  have v6 := hV.1.1.2.2.1
  unfold FX12_mark
  refine m_th2 hV hA ?_
  intro σ hA
  rw [r249_25]
  have no : ¬ mkB A x b = true → wp (zb (0 : Int32)) σ (fun r τ => r = mkB A x b ∧ MA (mkA A x b) τ ∧ ofM σ τ) := by
    intro q
    unfold mkA
    rw [if_neg q]
    exact ws_z0 ⟨by simpa using q, hA, ofM_rf⟩
  refine wp_eq (ms_within x 0 3 σ) ?_
  by_cases q1 : (decide (¬ x < 0) && decide (¬ 3 < x)) = true
  · rw [if_neg (bt q1), jn_eq]
    obtain ⟨k, hk3, rfl⟩ := wi_ex (n := 3) rfl q1
    have hk : k < 4 := by omega
    have hin : inN (nI k) 4 = true := inN_nI hk (by decide)
    have eB : mkB A (nI k) b = (!b || A.2.2.2.2.1.1 k) := by unfold mkB; rw [hin, cl_n (by omega)]; simp
    have i1 : (42 : Int32) * ((1 : Int32) + nI k) = nI (42 * (1 + k)) := by rw [show (1 : Int32) = nI 1 from rfl, nI_add, show (42 : Int32) = nI 42 from rfl, pk_mul]
    obtain ⟨p1, p2, p3⟩ := hA.2.2.1
    have hq0 : eqr (fun b j => b = 266 ∧ j = k) σ (up2 σ.1 266 k 1, σ.2) := eqr_up ⟨rfl, rfl⟩
    cases b
    · rw [if_pos (show b2i false = 0 from rfl), if_pos (show b2i false = 0 from rfl), if_pos (show b2i false = 0 from rfl), if_pos (show b2i false = 0 from rfl), i1]
      refine ws_u hk (by decide) ?_
      have e266 : ((up2 σ.1 266 k 1, σ.2) : MM).1 266 k = 1 := mm_at
      generalize ((up2 σ.1 266 k 1, σ.2) : MM) = τ at hq0 e266
      refine wp_eq (show pu (0 : Int32) τ = some (_, τ) from rfl) (wp_eq (show pu (nI (42 * (1 + k))) τ = some (_, τ) from rfl) ?_)
      have hK0 : MMk A.1 0 A.2.1 τ := ⟨MSk_r hq0 v6 (fun j _ _ => by omega) hA.2.1.1, MWa_r hq0 (fun j _ _ => by omega) hA.2.1.2.1, MTo_r hq0 hV.2.1.2.2.1 (fun j _ _ => by omega) hA.2.1.2.2⟩
      refine wp_bd (ms_copyK (f := 0) (t := 42 * (1 + k)) v6 hV.2.1.2.2.1 (by decide) (by omega) (by omega) hK0) ?_
      rintro _ υ ⟨hK, hq⟩
      have hq1 : eqr (fun b j => (b = 266 ∧ j = k) ∨ (b = 265 ∧ 42 * (1 + k) ≤ j ∧ j < 42 * (1 + k) + 42)) σ υ := eqr_tr (eqr_mono hq0 (fun b j q => Or.inl q)) (eqr_mono hq (fun b j q => Or.inr q))
      have e24 : υ.1 249 24 = nI A.2.2.1.1 := (hq1.1 _ _ (by omega)).trans p2
      refine wp_eq (show bd (gI 249 24) (fun x8 => pu x8) υ = some (nI A.2.2.1.1, υ) by rw [ev_bd (show gI 249 24 υ = some (nI A.2.2.1.1, υ) by unfold gI; rw [e24])]; rfl) ?_
      refine ws_s (ws_z1 ?_)
      have hq2 : eqr (fun b j => b = 249 ∧ j = 24) υ (up2 υ.1 249 24 (nI A.2.2.1.1), υ.2) := eqr_up ⟨rfl, rfl⟩
      have hq3 : eqr (fun b j => ((b = 266 ∧ j = k) ∨ (b = 265 ∧ 42 * (1 + k) ≤ j ∧ j < 42 * (1 + k) + 42)) ∨ (b = 249 ∧ j = 24)) σ (up2 υ.1 249 24 (nI A.2.2.1.1), υ.2) := eqr_tr (eqr_mono hq1 (fun b j q => Or.inl q)) (eqr_mono hq2 (fun b j q => Or.inr q))
      have hb : mkB A (nI k) false = true := by rw [eB]; rfl
      unfold mkA
      rw [if_pos hb, if_neg (by decide), cl_n (by omega)]
      refine ⟨hb.symm, ?_, ofM_r hq3 (fun b j q => by omega)⟩
      refine MA_k hV hA hq3 (fun b j q => by omega) ⟨MSk_r hq3 v6 (fun j _ _ => by omega) hA.2.1.1, MWa_r hq3 (fun j _ _ => by omega) hA.2.1.2.1, MTo_r hq3 hV.2.1.2.2.1 (fun j _ _ => by omega) hA.2.1.2.2⟩ ⟨p1, mm_at, fun i hi => MSk_r hq3 v6 (fun j _ _ => by omega) (p3 i hi)⟩ (fun m hm => ?_)
      by_cases z : m = k
      · subst z
        have e1 : (laG A.2.2.2.2.1 m A.2.1).2 m = A.2.1 := by simp [laG]
        have e2 : (laG A.2.2.2.2.1 m A.2.1).1 m = true := by simp [laG]
        rw [e1, e2]
        refine ⟨(hq2.1 _ _ (by omega)).trans ((hq.1 _ _ (by omega)).trans e266), fun _ => ?_⟩
        exact ⟨MSk_r hq2 v6 (fun j _ _ => by omega) hK.1, MWa_r hq2 (fun j _ _ => by omega) hK.2.1, MTo_r hq2 hV.2.1.2.2.1 (fun j _ _ => by omega) hK.2.2⟩
      · have e1 : (laG A.2.2.2.2.1 k A.2.1).2 m = A.2.2.2.2.1.2 m := by simp [laG, z]
        have e2 : (laG A.2.2.2.2.1 k A.2.1).1 m = A.2.2.2.2.1.1 m := by simp [laG, z]
        rw [e1, e2]
        obtain ⟨g1, g2⟩ := hA.2.2.2.2.1 m hm
        refine ⟨(hq3.1 _ _ (by omega)).trans g1, fun g => ?_⟩
        obtain ⟨k1, k2, k3⟩ := g2 g
        exact ⟨MSk_r hq3 v6 (fun j _ _ => by omega) k1, MWa_r hq3 (fun j _ _ => by omega) k2, MTo_r hq3 (hV.2.2.2.2.1 m hm g).2.2.1 (fun j _ _ => by omega) k3⟩
    · rw [if_neg (show ¬ b2i true = 0 by decide), if_neg (show ¬ b2i true = 0 by decide), if_neg (show ¬ b2i true = 0 by decide), if_neg (show ¬ b2i true = 0 by decide), i1]
      obtain ⟨g1, g2⟩ := hA.2.2.2.2.1 k hk
      refine ws_a hk (by decide) g1 ?_
      by_cases g : A.2.2.2.2.1.1 k = true
      · rw [if_neg (bt g)]
        refine ws_u hk (by decide) ?_
        have e266 : ((up2 σ.1 266 k 1, σ.2) : MM).1 266 k = 1 := mm_at
        generalize ((up2 σ.1 266 k 1, σ.2) : MM) = τ at hq0 e266
        refine wp_eq (show pu (nI (42 * (1 + k))) τ = some (_, τ) from rfl) (wp_eq (show pu (0 : Int32) τ = some (_, τ) from rfl) ?_)
        obtain ⟨k1, k2, k3⟩ := g2 g
        have vk := hV.2.2.2.2.1 k hk g
        have hK0 : MMk A.1 (42 * (1 + k)) (A.2.2.2.2.1.2 k) τ := ⟨MSk_r hq0 v6 (fun j _ _ => by omega) k1, MWa_r hq0 (fun j _ _ => by omega) k2, MTo_r hq0 vk.2.2.1 (fun j _ _ => by omega) k3⟩
        refine wp_bd (ms_copyK (t := 0) (f := 42 * (1 + k)) v6 vk.2.2.1 (by omega) (by decide) (by omega) hK0) ?_
        rintro _ υ ⟨hK, hq⟩
        refine wp_eq (show pu (0 : Int32) υ = some (_, υ) from rfl) (ws_s (ws_z1 ?_))
        have hq2 : eqr (fun b j => b = 249 ∧ j = 24) υ (up2 υ.1 249 24 0, υ.2) := eqr_up ⟨rfl, rfl⟩
        have hq1 : eqr (fun b j => (b = 266 ∧ j = k) ∨ (b = 265 ∧ 0 ≤ j ∧ j < 0 + 42)) σ υ := eqr_tr (eqr_mono hq0 (fun b j q => Or.inl q)) (eqr_mono hq (fun b j q => Or.inr q))
        have hq3 : eqr (fun b j => ((b = 266 ∧ j = k) ∨ (b = 265 ∧ 0 ≤ j ∧ j < 0 + 42)) ∨ (b = 249 ∧ j = 24)) σ (up2 υ.1 249 24 0, υ.2) := eqr_tr (eqr_mono hq1 (fun b j q => Or.inl q)) (eqr_mono hq2 (fun b j q => Or.inr q))
        have hb : mkB A (nI k) true = true := by rw [eB, g]; rfl
        unfold mkA
        rw [if_pos hb, if_pos rfl, cl_n (by omega)]
        refine ⟨hb.symm, ?_, ofM_r hq3 (fun b j q => by omega)⟩
        refine MA_k hV hA hq3 (fun b j q => by omega) ⟨MSk_r hq2 v6 (fun j _ _ => by omega) hK.1, MWa_r hq2 (fun j _ _ => by omega) hK.2.1, MTo_r hq2 vk.2.2.1 (fun j _ _ => by omega) hK.2.2⟩ ⟨by omega, mm_at, fun i hi => by omega⟩ (fun m hm => ?_)
        obtain ⟨g3, g4⟩ := hA.2.2.2.2.1 m hm
        refine ⟨?_, fun g5 => ?_⟩
        · by_cases z : m = k
          · subst z
            rw [g]
            exact (hq2.1 _ _ (by omega)).trans ((hq.1 _ _ (by omega)).trans e266)
          · exact (hq3.1 _ _ (by omega)).trans g3
        · obtain ⟨k1, k2, k3⟩ := g4 g5
          exact ⟨MSk_r hq3 v6 (fun j _ _ => by omega) k1, MWa_r hq3 (fun j _ _ => by omega) k2, MTo_r hq3 (hV.2.2.2.2.1 m hm g5).2.2.1 (fun j _ _ => by omega) k3⟩
      · rw [if_pos (bf g)]
        exact no (fun h => by rw [eB] at h; simp [g] at h)
  · rw [if_pos (bf q1)]
    refine no (fun h => q1 ?_)
    unfold mkB at h
    rw [Bool.and_eq_true] at h
    obtain ⟨k, hk, rfl⟩ := inN_ex (by decide) h.1
    rw [Bool.and_eq_true, decide_eq_true_eq, decide_eq_true_eq]
    exact ⟨nI_pos (by omega), fun q => absurd ((nI_ltI (a := 3) (by omega) (by omega)).mp q) (by omega)⟩
theorem ok_31 {σ : MM} (h : Inv σ) (q : Nat → Int32) : okC (fun chk => TL_31 chk q) σ := by
  obtain ⟨A, hV, hC, hM⟩ := h
  have e : ∀ chk : PP Unit, TL_31 chk q σ = (fun chk => bd (FX11_mark 0 (q 1) (b2i (decide (¬ q 2 = 0)))) (fun x => bd (FX12_mark 249 (q 1) (b2i (decide (¬ q 2 = 0)))) (fun y => if b2i x = b2i y then chk else fl))) chk σ := by
    intro chk
    unfold TL_31
    by_cases z : q 2 = 0
    · simp only [z, if_true, not_true, decide_false]
      rfl
    · simp only [z, if_false, not_false_eq_true, decide_true]
      rfl
  intro chk hc
  show ∃ τ, TL_31 chk q σ = _ ∧ _
  rw [e chk]
  exact okC_of (eq := fun x y => b2i x = b2i y) rfl hV (VA_mk hV) hM (c_mark hV hC (q 1) (decide (¬ q 2 = 0))) (fun τ hM => m_mark hV hM (q 1) (decide (¬ q 2 = 0))) chk hc
