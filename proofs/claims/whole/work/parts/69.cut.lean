/-! ===== the model's tokens ===== -/
theorem ws_uL {β : Type} {a n i : Nat} {x : Int64} {k : Unit → PP β} {σ : MM} {P : β → MM → Prop} (hi : i < n) (hn : n < 2 ^ 31) (h : wp (k ()) (σ.1, up2 σ.2.1 a i x, σ.2.2) P) : wp (bd (uL a n (nI i) x) k) σ P := wp_eq (ev_uL hi hn) h
theorem ws_aL {β : Type} {a n i : Nat} {x : Int64} {k : Int64 → PP β} {σ : MM} {P : β → MM → Prop} (hi : i < n) (hn : n < 2 ^ 31) (e : σ.2.1 a i = x) (h : wp (k x) σ P) : wp (bd (aL a n (nI i)) k) σ P := wp_eq (ev_aL hi hn) (by rw [e]; exact h)
def Rcu (b j : Nat) : Prop := b = 251 ∨ b = 252 ∨ (b = 249 ∧ (j = 2 ∨ j = 3 ∨ j = 7 ∨ j = 8))
def FK (σ τ : MM) : Prop := (∀ b j, ¬ Rcu b j → τ.1 b j = σ.1 b j) ∧ ∀ b j, b ≠ 253 → τ.2.1 b j = σ.2.1 b j
theorem FK_rf {σ : MM} : FK σ σ := ⟨fun _ _ _ => rfl, fun _ _ _ => rfl⟩
theorem FK_tr {σ τ υ : MM} (h1 : FK σ τ) (h2 : FK τ υ) : FK σ υ := ⟨fun b j q => (h2.1 b j q).trans (h1.1 b j q), fun b j q => (h2.2 b j q).trans (h1.2 b j q)⟩
theorem FK_i {σ : MM} {a j : Nat} {x : Int32} (h : Rcu a j) : FK σ (up2 σ.1 a j x, σ.2) := ⟨fun b i q => up2_ne (fun z => q (by rw [z.1, z.2]; exact h)), fun _ _ _ => rfl⟩
theorem FK_l {σ : MM} {j : Nat} {x : Int64} : FK σ (σ.1, up2 σ.2.1 253 j x, σ.2.2) := ⟨fun _ _ _ => rfl, fun b i q => up2L_ne (by omega)⟩
def valT (Q : TA) (i : Nat) (v : Int64) : Prop := (yT Q i = 1 → v = p37 (wT Q i)) ∧ (yT Q i = 2 → v = lN (nT Q i)) ∧ (yT Q i = 3 → v = (Q.2 (sT Q i)).toInt64)
/-- token t as the model keeps it -/
def TkM1 (Q : TA) (t : Nat) (τ : MM) : Prop := τ.1 251 t = nI (yT Q (tp Q t)) ∧ τ.1 252 t = nI (sT Q (tp Q t)) ∧ valT Q (tp Q t) (τ.2.1 253 t)
/-- all its tokens, m of them, and the end -/
def TkM (Q : TA) (m : Nat) (τ : MM) : Prop := m ≤ Q.1 ∧ sT Q (tp Q m) = Q.1 ∧ (∀ t, t < m → sT Q (tp Q t) < Q.1) ∧ ∀ t, t ≤ m → TkM1 Q t τ
theorem yT_pos {Q : TA} {i : Nat} (h : sT Q i < Q.1) : ¬ yT Q i = 0 := by
  unfold yT
  rw [if_pos h]
  split
  · split <;> omega
  · split
    · split <;> omega
    · split <;> omega
theorem yT_0 {Q : TA} {i : Nat} (h : ¬ sT Q i < Q.1) : yT Q i = 0 := by
  unfold yT
  rw [if_neg h]
theorem tp_ge {Q : TA} : ∀ t, (∀ u, u < t → sT Q (tp Q u) < Q.1) → t ≤ tp Q t
  | 0, _ => Nat.zero_le _
  | t + 1, h => by
    have h1 := tp_ge t (fun u hu => h u (by omega))
    have h2 := (eT_le (tp_le (Q := Q) t)).2.2 (h t (by omega))
    have h3 := (sT_le (tp_le (Q := Q) t)).1
    show t + 1 ≤ eT Q (tp Q t)
    omega
theorem sT_mid {Q : TA} {i k : Nat} (h1 : i ≤ k) (h2 : k ≤ sT Q i) (h3 : k < Q.1) : (isB (Q.2 k) = true ↔ k < sT Q i) := by
  have rin := run_in (p := fun k => isB (Q.2 k)) (Q.1 - i) i
  have rout := run_out (p := fun k => isB (Q.2 k)) (Q.1 - i) i
  constructor
  · intro hb
    apply Classical.byContradiction
    intro z
    have e : k = sT Q i := by omega
    have := rout (by unfold sT at e; omega)
    have e2 : run (fun k => isB (Q.2 k)) i (Q.1 - i) = k := by rw [e]; rfl
    rw [e2] at this
    rw [hb] at this
    exact absurd this (by decide)
  · intro hk
    exact rin k h1 hk
theorem m_cutAll {Q : TA} {σ : MM} (vQ : VTa Q) (hQ : MTa Q σ) : wp (FX12_cutAll 249) σ (fun _ τ => (∃ m, TkM Q m τ) ∧ τ.1 249 7 = 0 ∧ τ.1 249 8 = 0 ∧ τ.1 249 2 = 0 ∧ FK σ τ) := by
  have vn := vQ.1
  unfold FX12_cutAll
  rw [r249_1, r249_4, r249_5, r249_6]
  refine ws_gv hQ.1 (ws_s (ws_s ?_))
  show wp _ ((up2 (up2 σ.1 249 3 (nI Q.1)) 249 2 0, σ.2) : MM) _
  have hF0 : FK σ (up2 (up2 σ.1 249 3 (nI Q.1)) 249 2 0, σ.2) := FK_tr (FK_i (by unfold Rcu; omega)) (FK_i (σ := (up2 σ.1 249 3 (nI Q.1), σ.2)) (by unfold Rcu; omega))
  have a3 : ((up2 (up2 σ.1 249 3 (nI Q.1)) 249 2 0, σ.2) : MM).1 249 3 = nI Q.1 := (mm_ne (by omega)).trans up2_at
  have a2 : ((up2 (up2 σ.1 249 3 (nI Q.1)) 249 2 0, σ.2) : MM).1 249 2 = 0 := mm_at
  generalize ((up2 (up2 σ.1 249 3 (nI Q.1)) 249 2 0, σ.2) : MM) = τ0 at hF0 a3 a2
  refine ws_it (fun c s τ => ∃ t k, s = (nI t, nI k) ∧ c ≤ k ∧ k ≤ Q.1 ∧ tp Q t ≤ k ∧ k ≤ sT Q (tp Q t) ∧ (∀ u, u < t → sT Q (tp Q u) < Q.1 ∧ TkM1 Q u τ) ∧ τ.1 249 3 = nI Q.1 ∧ τ.1 249 2 = 0 ∧ FK σ τ) Q.1 (by omega) ⟨0, 0, rfl, Nat.le_refl 0, Nat.zero_le _, Nat.le_refl 0, Nat.zero_le _, fun u hu => by omega, a3, a2, hF0⟩ ?_
  rintro c s τ hc ⟨t, k, rfl, ck, kn, tk, ks, hT, k3, k2, hF⟩
  have hsn := (sT_le (tp_le (Q := Q) t)).2
  have tt := tp_ge t (fun u hu => (hT u hu).1)
  have hch : ∀ i, i < Q.1 → τ.1 250 i = Q.2 i := fun i hi => (hF.1 250 i (fun z => by unfold Rcu at z; omega)).trans (hQ.2 i hi)
  refine ws_gv k3 ?_
  by_cases hkn : k < Q.1
  · rw [if_neg (nle_n hkn (by omega))]
    refine ws_a (by omega) (by decide) (hch k hkn) ?_
    have hb := sT_mid tk ks hkn
    by_cases zb : isB (Q.2 k) = true
    · have hk2 := hb.mp zb
      have nx : ∀ {r : PP ((Int32 × Int32) ⊕ Int32)}, r = lt (nI k + (1 : Int32)) (fun y5 => pu (Sum.inl (nI t, y5))) → wp r τ (fun r υ => (∃ a', r = .inl a' ∧ c < Q.1 ∧ (∃ t k, a' = (nI t, nI k) ∧ c + 1 ≤ k ∧ k ≤ Q.1 ∧ tp Q t ≤ k ∧ k ≤ sT Q (tp Q t) ∧ (∀ u, u < t → sT Q (tp Q u) < Q.1 ∧ TkM1 Q u υ) ∧ υ.1 249 3 = nI Q.1 ∧ υ.1 249 2 = 0 ∧ FK σ υ)) ∨ (∃ b, r = .inr b ∧ wp (bd (uI 251 1002 b (0 : Int32)) (fun (_ : Unit) => bd (gI 249 3) (fun x34 => bd (uI 252 1002 b x34) (fun (_ : Unit) => bd (sI 249 7 (0 : Int32)) (fun (_ : Unit) => bd (sI 249 8 (0 : Int32)) (fun (_ : Unit) => pu ())))))) υ (fun _ τ => (∃ m, TkM Q m τ) ∧ τ.1 249 7 = 0 ∧ τ.1 249 8 = 0 ∧ τ.1 249 2 = 0 ∧ FK σ τ))) := by
        intro r hr
        rw [hr, lt_eq]
        exact wp_pu (Or.inl ⟨_, rfl, by omega, t, k + 1, by rw [nI_1], by omega, by omega, by omega, by omega, hT, k3, k2, hF⟩)
      unfold isB at zb
      rw [Bool.or_eq_true, decide_eq_true_eq, decide_eq_true_eq] at zb
      by_cases z10 : Q.2 k = 10
      · rw [if_pos z10]; exact nx rfl
      · rw [if_neg z10, if_pos (by rcases zb with h | h; exact absurd h z10; exact h)]; exact nx rfl
    · have n10 : ¬ Q.2 k = 10 := fun h => zb (by simp [isB, h])
      have n32 : ¬ Q.2 k = 32 := fun h => zb (by simp [isB, h])
      rw [if_neg n10, if_neg n32]
      have ek : k = sT Q (tp Q t) := by
        have : ¬ k < sT Q (tp Q t) := fun h => zb (hb.mpr h)
        omega
      have hst : sT Q (tp Q t) < Q.1 := by omega
      obtain ⟨e1, e2, e3⟩ := eT_le (tp_le (Q := Q) t)
      have e3' := e3 hst
      refine ws_u (by omega) (by decide) ?_
      have c3 : ((up2 τ.1 252 t (nI k), τ.2) : MM).1 249 3 = nI Q.1 := (mm_ne (by omega)).trans k3
      have c2 : ((up2 τ.1 252 t (nI k), τ.2) : MM).1 249 2 = 0 := (mm_ne (by omega)).trans k2
      have cF : FK σ (up2 τ.1 252 t (nI k), τ.2) := FK_tr hF (FK_i (by unfold Rcu; omega))
      have cT : ∀ u, u < t → sT Q (tp Q u) < Q.1 ∧ TkM1 Q u (up2 τ.1 252 t (nI k), τ.2) := fun u hu => ⟨(hT u hu).1, (mm_ne (by omega)).trans (hT u hu).2.1, (mm_ne (by omega)).trans (hT u hu).2.2.1, (hT u hu).2.2.2⟩
      have cp : ((up2 τ.1 252 t (nI k), τ.2) : MM).1 252 t = nI k := mm_at
      generalize ((up2 τ.1 252 t (nI k), τ.2) : MM) = τ1 at c3 c2 cF cT cp
      have hch1 : ∀ i, i < Q.1 → τ1.1 250 i = Q.2 i := fun i hi => (cF.1 250 i (fun z => by unfold Rcu at z; omega)).trans (hQ.2 i hi)
      refine wp_eq (m_isLetter _ τ1) ?_
      refine wp_bd (Q := fun r τ2 => r.1 = nI (eT Q (tp Q t)) ∧ valT Q (tp Q t) r.2 ∧ τ2.1 251 t = nI (yT Q (tp Q t)) ∧ τ2.1 252 t = nI k ∧ τ2.1 249 3 = nI Q.1 ∧ τ2.1 249 2 = 0 ∧ (∀ u, u < t → sT Q (tp Q u) < Q.1 ∧ TkM1 Q u τ2) ∧ FK σ τ2) ?_ ?_
      · have fin : ∀ (y : Nat) (p : Int32 × Int64), y = yT Q (tp Q t) → p.1 = nI (eT Q (tp Q t)) → valT Q (tp Q t) p.2 → wp (bd (uI 251 1002 (nI t) (nI y)) (fun (_ : Unit) => pu p)) τ1 (fun r τ2 => r.1 = nI (eT Q (tp Q t)) ∧ valT Q (tp Q t) r.2 ∧ τ2.1 251 t = nI (yT Q (tp Q t)) ∧ τ2.1 252 t = nI k ∧ τ2.1 249 3 = nI Q.1 ∧ τ2.1 249 2 = 0 ∧ (∀ u, u < t → sT Q (tp Q u) < Q.1 ∧ TkM1 Q u τ2) ∧ FK σ τ2) := by
          intro y p hy hp hv
          refine ws_u (by omega) (by decide) (wp_pu ⟨hp, hv, mm_at.trans (by rw [hy]), (mm_ne (by omega)).trans cp, (mm_ne (by omega)).trans c3, (mm_ne (by omega)).trans c2, fun u hu => ⟨(cT u hu).1, (mm_ne (by omega)).trans (cT u hu).2.1, (mm_ne (by omega)).trans (cT u hu).2.2.1, (cT u hu).2.2.2⟩, FK_tr cF (FK_i (by unfold Rcu; omega))⟩)
        by_cases zl : isL (Q.2 k) = true
        · rw [if_neg (bt zl)]
          have zl' : isL (Q.2 (sT Q (tp Q t))) = true := by rw [← ek]; exact zl
          have ee : eT Q (tp Q t) = run (fun k => isL (Q.2 k)) k (Q.1 - k) := by unfold eT; rw [if_pos hst, if_pos zl', ← ek]
          have ey : yT Q (tp Q t) = if eT Q (tp Q t) - k ≤ 8 then 1 else 4 := by unfold yT; rw [if_pos hst, if_pos zl', ← ek]
          obtain ⟨r1, r2⟩ := run_le (p := fun k => isL (Q.2 k)) (Q.1 - k) k
          have rin := run_in (p := fun k => isL (Q.2 k)) (Q.1 - k) k
          have rout := run_out (p := fun k => isL (Q.2 k)) (Q.1 - k) k
          rw [← ee] at r1 r2 rin rout
          generalize hE : eT Q (tp Q t) = e at ee ey r1 r2 rin rout fin e1 e2 e3'
          refine ws_it (fun j s υ => ∃ v : Int64, s = (nI (k + j), v) ∧ (j ≤ 8 → v = p37 (wd Q k j)) ∧ υ = τ1) (e - k) (by omega) ⟨0, rfl, fun _ => rfl, rfl⟩ ?_
          rintro j s υ hj ⟨v, rfl, hv, rfl⟩
          refine ws_gv c3 ?_
          have ext : e = k + j → wp (bd (if (nI (k + j) - nI k) ≤ (8 : Int32) then pu (1 : Int32) else pu (4 : Int32) : PP (Int32)) (fun (v29 : Int32) => bd (uI 251 1002 (nI t) v29) (fun (_ : Unit) => pu (nI (k + j), v)))) υ (fun r τ2 => r.1 = nI e ∧ valT Q (tp Q t) r.2 ∧ τ2.1 251 t = nI (yT Q (tp Q t)) ∧ τ2.1 252 t = nI k ∧ τ2.1 249 3 = nI Q.1 ∧ τ2.1 249 2 = 0 ∧ (∀ u, u < t → sT Q (tp Q u) < Q.1 ∧ TkM1 Q u τ2) ∧ FK σ τ2) := by
            intro he
            rw [pk_sub (by omega), show k + j - k = e - k by omega]
            have hw : wT Q (tp Q t) = wd Q k (e - k) := by unfold wT; rw [← ek, hE]
            by_cases z : e - k ≤ 8
            · rw [if_pos (show nI (e - k) ≤ 8 from (nI_leI (b := 8) (by omega) (by decide)).mpr z)]
              rw [if_pos z] at ey
              refine wp_eq (show pu (1 : Int32) υ = some (nI 1, υ) from rfl) (fin 1 _ ey.symm (by rw [he]) ⟨fun _ => ?_, fun h => by omega, fun h => by omega⟩)
              rw [hw, hv (by omega), show j = e - k by omega]
            · rw [if_neg (show ¬ nI (e - k) ≤ 8 from fun q => z ((nI_leI (b := 8) (by omega) (by decide)).mp q))]
              rw [if_neg z] at ey
              exact wp_eq (show pu (4 : Int32) υ = some (nI 4, υ) from rfl) (fin 4 _ ey.symm (by rw [he]) ⟨fun h => by omega, fun h => by omega, fun h => by omega⟩)
          by_cases hjn : j < e - k
          · rw [if_neg (nle_n (by omega) (by omega))]
            refine ws_a (by omega) (by decide) (hch1 (k + j) (by omega)) ?_
            have hl := rin (k + j) (by omega) (by omega)
            refine wp_eq (m_isLetter _ υ) ?_
            rw [if_neg (bt hl), pk_sub (by omega), show k + j - k = j by omega]
            obtain ⟨q, q1, q2, q3⟩ := L_ex hl
            by_cases z : j < 8
            · rw [if_neg (show ¬ (8 : Int32) ≤ nI j from nle_n (b := 8) z (by decide))]
              refine bd_asw (ws_a (by omega) (by decide) (hch1 (k + j) (by omega)) ?_)
              have er : FX12_rank (Q.2 (k + j)) υ = some (nI (q - 96), υ) := by
                unfold FX12_rank
                refine (ev_bd (m_isLetter _ υ)).trans ?_
                rw [if_neg (bt hl), q3, show (96 : Int32) = nI 96 from rfl, pk_sub (by omega)]
                rfl
              refine bd_asw (wp_eq er ?_)
              refine wp_eq (show pu _ υ = some (_, υ) from rfl) ?_
              rw [lt_eq]
              refine wp_pu (Or.inl ⟨_, rfl, hjn, _, by rw [nI_1]; rfl, fun _ => ?_, rfl⟩)
              rw [wd_s, p37_s, q3, cl_n (by omega), hv (by omega), nI_l (by omega)]
            · rw [if_pos (show (8 : Int32) ≤ nI j from nI_le (a := 8) (by omega) (by omega))]
              refine wp_eq (show pu _ υ = some (_, υ) from rfl) ?_
              rw [lt_eq]
              exact wp_pu (Or.inl ⟨_, rfl, hjn, v, by rw [nI_1]; rfl, fun h => by omega, rfl⟩)
          · have he : e = k + j := by omega
            by_cases z : e = Q.1
            · rw [if_pos (nI_le (by omega) (by omega))]
              exact wp_pu (Or.inr ⟨_, rfl, ext he⟩)
            · rw [if_neg (nle_n (by omega) (by omega))]
              refine ws_a (by omega) (by decide) (hch1 (k + j) (by omega)) ?_
              have hl := rout (by omega)
              rw [he] at hl
              have hl' : isL (Q.2 (k + j)) = false := hl
              refine wp_eq (m_isLetter _ υ) ?_
              rw [if_pos (bf (by rw [hl']; decide))]
              exact wp_pu (Or.inr ⟨_, rfl, ext he⟩)
        · rw [if_pos (bf zl)]
          have zl' : ¬ isL (Q.2 (sT Q (tp Q t))) = true := by rw [← ek]; exact zl
          refine wp_eq (m_isDigit _ τ1) ?_
          by_cases zd : isD (Q.2 k) = true
          · rw [if_neg (bt zd)]
            have zd' : isD (Q.2 (sT Q (tp Q t))) = true := by rw [← ek]; exact zd
            have ee : eT Q (tp Q t) = run (fun k => isD (Q.2 k)) k (Q.1 - k) := by unfold eT; rw [if_pos hst, if_neg zl', if_pos zd', ← ek]
            have ey : yT Q (tp Q t) = if eT Q (tp Q t) - k ≤ 4 then 2 else 4 := by unfold yT; rw [if_pos hst, if_neg zl', if_pos zd', ← ek]
            obtain ⟨r1, r2⟩ := run_le (p := fun k => isD (Q.2 k)) (Q.1 - k) k
            have rin := run_in (p := fun k => isD (Q.2 k)) (Q.1 - k) k
            have rout := run_out (p := fun k => isD (Q.2 k)) (Q.1 - k) k
            rw [← ee] at r1 r2 rin rout
            generalize hE : eT Q (tp Q t) = e at ee ey r1 r2 rin rout fin e1 e2 e3'
            refine ws_it (fun j s υ => ∃ v : Int64, s = (nI (k + j), v) ∧ (j ≤ 4 → v = lN (dgs Q k j)) ∧ υ = τ1) (e - k) (by omega) ⟨0, rfl, fun _ => rfl, rfl⟩ ?_
            rintro j s υ hj ⟨v, rfl, hv, rfl⟩
            refine ws_gv c3 ?_
            have ext : e = k + j → wp (bd (if (nI (k + j) - nI k) ≤ (4 : Int32) then pu (2 : Int32) else pu (4 : Int32) : PP (Int32)) (fun (v19 : Int32) => bd (uI 251 1002 (nI t) v19) (fun (_ : Unit) => pu (nI (k + j), v)))) υ (fun r τ2 => r.1 = nI e ∧ valT Q (tp Q t) r.2 ∧ τ2.1 251 t = nI (yT Q (tp Q t)) ∧ τ2.1 252 t = nI k ∧ τ2.1 249 3 = nI Q.1 ∧ τ2.1 249 2 = 0 ∧ (∀ u, u < t → sT Q (tp Q u) < Q.1 ∧ TkM1 Q u τ2) ∧ FK σ τ2) := by
              intro he
              rw [pk_sub (by omega), show k + j - k = e - k by omega]
              have hw : nT Q (tp Q t) = dgs Q k (e - k) := by unfold nT; rw [← ek, hE]
              by_cases z : e - k ≤ 4
              · rw [if_pos (show nI (e - k) ≤ 4 from (nI_leI (b := 4) (by omega) (by decide)).mpr z)]
                rw [if_pos z] at ey
                refine wp_eq (show pu (2 : Int32) υ = some (nI 2, υ) from rfl) (fin 2 _ ey.symm (by rw [he]) ⟨fun h => by omega, fun _ => ?_, fun h => by omega⟩)
                rw [hw, hv (by omega), show j = e - k by omega]
              · rw [if_neg (show ¬ nI (e - k) ≤ 4 from fun q => z ((nI_leI (b := 4) (by omega) (by decide)).mp q))]
                rw [if_neg z] at ey
                exact wp_eq (show pu (4 : Int32) υ = some (nI 4, υ) from rfl) (fin 4 _ ey.symm (by rw [he]) ⟨fun h => by omega, fun h => by omega, fun h => by omega⟩)
            by_cases hjn : j < e - k
            · rw [if_neg (nle_n (by omega) (by omega))]
              refine ws_a (by omega) (by decide) (hch1 (k + j) (by omega)) ?_
              have hl := rin (k + j) (by omega) (by omega)
              refine wp_eq (m_isDigit _ υ) ?_
              rw [if_neg (bt hl), pk_sub (by omega), show k + j - k = j by omega]
              obtain ⟨q, q1, q2, q3⟩ := D_ex hl
              by_cases z : j < 4
              · rw [if_neg (show ¬ (4 : Int32) ≤ nI j from nle_n (b := 4) z (by decide))]
                refine bd_asw (ws_a (by omega) (by decide) (hch1 (k + j) (by omega)) ?_)
                refine wp_eq (show pu _ υ = some (_, υ) from rfl) ?_
                rw [lt_eq]
                refine wp_pu (Or.inl ⟨_, rfl, hjn, _, by rw [nI_1]; rfl, fun _ => ?_, rfl⟩)
                show _ = lN (dgs Q k j * 10 + ((Q.2 (k + j)).toNatClampNeg - 48))
                rw [q3, cl_n (by omega), hv (by omega), nI_l (by omega), show (10 : Int64) = lN 10 from rfl, lN_mul, lN_add, show (48 : Int64) = lN 48 from rfl, lN_sub (by omega)]
                congr 1
                omega
              · rw [if_pos (show (4 : Int32) ≤ nI j from nI_le (a := 4) (by omega) (by omega))]
                refine wp_eq (show pu _ υ = some (_, υ) from rfl) ?_
                rw [lt_eq]
                exact wp_pu (Or.inl ⟨_, rfl, hjn, v, by rw [nI_1]; rfl, fun h => by omega, rfl⟩)
            · have he : e = k + j := by omega
              by_cases z : e = Q.1
              · rw [if_pos (nI_le (by omega) (by omega))]
                exact wp_pu (Or.inr ⟨_, rfl, ext he⟩)
              · rw [if_neg (nle_n (by omega) (by omega))]
                refine ws_a (by omega) (by decide) (hch1 (k + j) (by omega)) ?_
                have hl := rout (by omega)
                rw [he] at hl
                have hl' : isD (Q.2 (k + j)) = false := hl
                refine wp_eq (m_isDigit _ υ) ?_
                rw [if_pos (bf (by rw [hl']; decide))]
                exact wp_pu (Or.inr ⟨_, rfl, ext he⟩)
          · rw [if_pos (bf zd)]
            have zd' : ¬ isD (Q.2 (sT Q (tp Q t))) = true := by rw [← ek]; exact zd
            have ee : eT Q (tp Q t) = k + 1 := by unfold eT; rw [if_pos hst, if_neg zl', if_neg zd', ← ek]
            have ey : yT Q (tp Q t) = if isS (Q.2 k) = true then 3 else 4 := by unfold yT; rw [if_pos hst, if_neg zl', if_neg zd', ← ek]
            refine wp_eq (m_isSignOf _ τ1) ?_
            rw [nI_1, ← ee]
            by_cases zs : isS (Q.2 k) = true
            · rw [if_neg (bt zs)]
              rw [if_pos zs] at ey
              exact wp_eq (show pu (3 : Int32) τ1 = some (nI 3, τ1) from rfl) (fin 3 (nI (eT Q (tp Q t)), (Q.2 k).toInt64) ey.symm rfl ⟨fun h => by omega, fun h => by omega, fun _ => by rw [ek]⟩)
            · rw [if_pos (bf zs)]
              rw [if_neg zs] at ey
              exact wp_eq (show pu (4 : Int32) τ1 = some (nI 4, τ1) from rfl) (fin 4 (nI (eT Q (tp Q t)), (Q.2 k).toInt64) ey.symm rfl ⟨fun h => by omega, fun h => by omega, fun h => by omega⟩)
      · rintro ⟨r1, r2⟩ τ2 ⟨hr1, hv, g1, g2, g3, g4, g5, g6⟩
        have hr1' : r1 = nI (eT Q (tp Q t)) := hr1
        have hv' : valT Q (tp Q t) r2 := hv
        subst hr1'
        refine ws_uL (by omega) (by decide) ?_
        rw [lt_eq]
        have hs2 := (sT_le (tp_le (Q := Q) (t + 1))).1
        refine wp_pu (Or.inl ⟨_, rfl, by omega, t + 1, eT Q (tp Q t), by rw [nI_1], by omega, e2, Nat.le_refl _, hs2, fun u hu => ?_, g3, g4, FK_tr g6 FK_l⟩)
        by_cases z : u = t
        · subst z
          refine ⟨hst, g1, by rw [← ek]; exact g2, ?_⟩
          show valT Q (tp Q u) (up2 τ2.2.1 253 u r2 253 u)
          rw [up2L_at]
          exact hv'
        · obtain ⟨h1, h2, h3, h4⟩ := g5 u (by omega)
          refine ⟨h1, h2, h3, ?_⟩
          show valT Q (tp Q u) (up2 τ2.2.1 253 t r2 253 u)
          rw [up2L_ne (by omega)]
          exact h4
  · have hk : k = Q.1 := by omega
    rw [if_pos (nI_le (by omega) (by omega))]
    refine wp_pu (Or.inr ⟨_, rfl, ?_⟩)
    refine ws_u (by omega) (by decide) (ws_gv (x := nI Q.1) ((mm_ne (by omega)).trans k3) (ws_u (by omega) (by decide) (ws_s (ws_s (wp_pu ?_)))))
    have hend : sT Q (tp Q t) = Q.1 := by omega
    refine ⟨⟨t, by omega, hend, fun u hu => (hT u hu).1, fun u hu => ?_⟩, (mm_ne (by omega)).trans mm_at, mm_at, ?_, ?_⟩
    · by_cases z : u = t
      · subst z
        have y0 : yT Q (tp Q u) = 0 := yT_0 (by omega)
        refine ⟨?_, ?_, fun h => by omega, fun h => by omega, fun h => by omega⟩
        · rw [y0]
          exact (mm_ne (by omega)).trans ((mm_ne (by omega)).trans ((mm_ne (by omega)).trans mm_at))
        · rw [hend]
          exact (mm_ne (by omega)).trans ((mm_ne (by omega)).trans mm_at)
      · obtain ⟨-, h2, h3, h4⟩ := hT u (by omega)
        exact ⟨(mm_ne (by omega)).trans ((mm_ne (by omega)).trans ((mm_ne (by omega)).trans ((mm_ne (by omega)).trans h2))), (mm_ne (by omega)).trans ((mm_ne (by omega)).trans ((mm_ne (by omega)).trans ((mm_ne (by omega)).trans h3))), h4⟩
    · exact (mm_ne (by omega)).trans ((mm_ne (by omega)).trans ((mm_ne (by omega)).trans ((mm_ne (by omega)).trans k2)))
    · exact FK_tr hF (FK_tr (FK_i (by unfold Rcu; omega)) (FK_tr (FK_i (by unfold Rcu; omega)) (FK_tr (FK_i (by unfold Rcu; omega)) (FK_i (by unfold Rcu; omega)))))
