/-! ===== what the model's reader expects ===== -/
def Rat (b j : Nat) : Prop := b = 249 ∧ (j = 7 ∨ j = 8)
theorem SM_r {R : Nat → Nat → Prop} {Q : TA} {m t E t2 E2 : Nat} {σ τ : MM} (h : SM Q m t E σ) (hq : eqr R σ τ) (hR : ∀ b j, R b j → b ≠ 251 ∧ b ≠ 252) (ht : t2 ≤ m) (h7 : τ.1 249 7 = nI t2) (h8 : τ.1 249 8 = nI E2) : SM Q m t2 E2 τ := by
  obtain ⟨⟨k1, k2, k3, k4⟩, k5, -⟩ := h
  refine ⟨⟨k1, k2, k3, fun u hu => ?_⟩, fun i hi => by rw [hq.2]; exact k5 i hi, ht, h7, h8⟩
  obtain ⟨l1, l2, l3⟩ := k4 u hu
  exact ⟨(hq.1 _ _ (fun z => (hR _ _ z).1 rfl)).trans l1, (hq.1 _ _ (fun z => (hR _ _ z).2 rfl)).trans l2, by rw [hq.2]; exact l3⟩
theorem SM_m {Q : TA} {m t E : Nat} {σ : MM} (vQ : VTa Q) (h : SM Q m t E σ) : t ≤ 1000 ∧ m ≤ 1000 := by
  have h1 := h.1.1
  have h2 := h.2.2.1
  have h3 := vQ.1
  omega
theorem m_wrong {Q : TA} {m t E k : Nat} {σ : MM} (vQ : VTa Q) (hE : E < 20000) (h : SM Q m t E σ) : wp (FX12_wrong 249 (nI k)) σ (fun _ τ => SM Q m t (fE Q k t E) τ ∧ eqr Rat σ τ) := by
  obtain ⟨hm1, hm2⟩ := SM_m vQ h
  unfold FX12_wrong fE
  rw [r249_5]
  refine ws_gv h.2.2.2.2 ?_
  by_cases e0 : E = 0
  · rw [if_pos (by rw [e0]; rfl), if_pos e0]
    refine bd_asw (ws_gv h.2.2.2.1 (bd_asw (ws_a (by omega) (by decide) (h.1.2.2.2 t h.2.2.1).2.1 (bd_asw (ws_s ?_)))))
    refine wp_eq (show pu () _ = some ((), _) from rfl) (wp_pu ?_)
    have hq : eqr Rat σ (up2 σ.1 249 8 (nI k + (16 : Int32) * nI (sT Q (tp Q t))), σ.2) := eqr_up (by unfold Rat; omega)
    refine ⟨SM_r h hq (fun b j z => by unfold Rat at z; omega) h.2.2.1 ((mm_ne (by omega)).trans h.2.2.2.1) (mm_at.trans ?_), hq⟩
    rw [show (16 : Int32) = nI 16 from rfl, pk_mul, nI_add]
    rfl
  · rw [if_neg (nI_ne0 (by omega) (by omega)), if_neg e0]
    exact wp_eq (show pu () σ = some ((), σ) from rfl) (wp_pu ⟨h, eqr_rf⟩)
theorem i64_inj {a b : Int32} (h : a.toInt64 = b.toInt64) : a = b := by
  have := congrArg Int64.toInt h
  rw [Int32.toInt_toInt64, Int32.toInt_toInt64] at this
  exact Int32.toInt_inj.mp this
theorem m_isSign {Q : TA} {m t E : Nat} {σ : MM} (vQ : VTa Q) (hE : E < 20000) (h : SM Q m t E σ) (c : Int32) : FX12_isSign 249 c σ = some (decide (E = 0) && gB Q c t, σ) := by
  obtain ⟨hm1, hm2⟩ := SM_m vQ h
  obtain ⟨l1, l2, l3⟩ := h.1.2.2.2 t h.2.2.1
  have e8 : gI 249 8 σ = some (nI E, σ) := by unfold gI; rw [h.2.2.2.2]
  have e7 : gI 249 7 σ = some (nI t, σ) := by unfold gI; rw [h.2.2.2.1]
  have e1 := ev_aI (a := 251) (n := 1002) (σ := σ) (show t < 1002 by omega) (by decide)
  rw [l1] at e1
  have e2 := ev_aL (a := 253) (n := 1002) (σ := σ) (show t < 1002 by omega) (by decide)
  unfold FX12_isSign
  rw [r249_4, r249_6]
  refine (ev_bd e8).trans ?_
  by_cases e0 : E = 0
  · rw [if_pos (show nI E = 0 by rw [e0]; rfl), bd_as]
    refine (ev_bd e7).trans ?_
    rw [bd_as]
    refine (ev_bd e1).trans ?_
    have y4 := yT_4 (Q := Q) (i := tp Q t)
    by_cases y3 : yT Q (tp Q t) = 3
    · rw [if_pos (show nI (yT Q (tp Q t)) = 3 by rw [y3]; rfl), bd_as]
      refine (ev_bd e7).trans ?_
      rw [bd_as]
      refine (ev_bd e2).trans ?_
      rw [l3.2.2 y3]
      by_cases z : Q.2 (sT Q (tp Q t)) = c
      · rw [if_pos ((lg_cmp_eq _ _).mpr (by rw [z]))]
        simp [e0, gB, y3, z, bd, pu, zb]
      · rw [if_neg (fun q => z (i64_inj ((lg_cmp_eq _ _).mp q)))]
        simp [e0, gB, y3, z, bd, pu, zb]
    · rw [if_neg (show ¬ nI (yT Q (tp Q t)) = 3 from fun q => y3 ((nI_eq (b := 3) (by omega) (by decide)).mp q))]
      simp [gB, y3, bd, pu, zb]
  · rw [if_neg (nI_ne0 (by omega) (by omega))]
    simp [e0, bd, pu, zb]
theorem m_isWord {Q : TA} {m t E k : Nat} {σ : MM} (vQ : VTa Q) (hE : E < 20000) (hk : k < 23) (h : SM Q m t E σ) : FX12_isWord 249 (nI k) σ = some (decide (E = 0) && wB Q k t, σ) := by
  obtain ⟨hm1, hm2⟩ := SM_m vQ h
  obtain ⟨l1, l2, l3⟩ := h.1.2.2.2 t h.2.2.1
  have e8 : gI 249 8 σ = some (nI E, σ) := by unfold gI; rw [h.2.2.2.2]
  have e7 : gI 249 7 σ = some (nI t, σ) := by unfold gI; rw [h.2.2.2.1]
  have e1 := ev_aI (a := 251) (n := 1002) (σ := σ) (show t < 1002 by omega) (by decide)
  rw [l1] at e1
  have e2 := ev_aL (a := 253) (n := 1002) (σ := σ) (show t < 1002 by omega) (by decide)
  have e3 := ev_aL (a := 254) (n := 23) (σ := σ) hk (by decide)
  rw [h.2.1 k hk, (wtx_ok k hk).2] at e3
  unfold FX12_isWord
  rw [r249_4, r249_6, r249_9]
  refine (ev_bd e8).trans ?_
  by_cases e0 : E = 0
  · rw [if_pos (show nI E = 0 by rw [e0]; rfl), bd_as]
    refine (ev_bd e7).trans ?_
    rw [bd_as]
    refine (ev_bd e1).trans ?_
    have y4 := yT_4 (Q := Q) (i := tp Q t)
    by_cases y1 : yT Q (tp Q t) = 1
    · rw [if_pos (show nI (yT Q (tp Q t)) = 1 by rw [y1]; rfl), bd_as]
      refine (ev_bd e7).trans ?_
      rw [bd_as]
      refine (ev_bd e2).trans ?_
      rw [bd_as]
      refine (ev_bd e3).trans ?_
      rw [l3.1 y1]
      by_cases z : wT Q (tp Q t) = wtx k
      · rw [if_pos ((lg_cmp_eq _ _).mpr (by rw [z]))]
        simp [e0, wB, y1, z, bd, pu, zb]
      · rw [if_neg (fun q => z (p37_inj (wT_ok (tp_le _) y1) (wtx_ok k hk).1 ((lg_cmp_eq _ _).mp q)))]
        simp [e0, wB, y1, z, bd, pu, zb]
    · rw [if_neg (show ¬ nI (yT Q (tp Q t)) = 1 from fun q => y1 ((nI_eq (b := 1) (by omega) (by decide)).mp q))]
      simp [wB, y1, bd, pu, zb]
  · rw [if_neg (nI_ne0 (by omega) (by omega))]
    simp [e0, bd, pu, zb]
/-- one token more -/
theorem SM_1 {Q : TA} {m t E : Nat} {σ : MM} (h : SM Q m t E σ) (ht : t < m) : SM Q m (t + 1) E (up2 σ.1 249 7 (nI t + (1 : Int32)), σ.2) ∧ eqr Rat σ (up2 σ.1 249 7 (nI t + (1 : Int32)), σ.2) := by
  have hq : eqr Rat σ (up2 σ.1 249 7 (nI t + (1 : Int32)), σ.2) := eqr_up (by unfold Rat; omega)
  exact ⟨SM_r h hq (fun b j z => by unfold Rat at z; omega) (by omega) (mm_at.trans (nI_1 t)) ((mm_ne (by omega)).trans h.2.2.2.2), hq⟩
theorem t_lt {Q : TA} {m t E : Nat} {σ : MM} (h : SM Q m t E σ) (hy : ¬ yT Q (tp Q t) = 0) : t < m := by
  have h1 := h.2.2.1
  apply Classical.byContradiction
  intro z
  have : t = m := by omega
  apply hy
  rw [this]
  exact yT_0 (by rw [h.1.2.1]; omega)
theorem gB_y {Q : TA} {c : Int32} {t : Nat} (h : gB Q c t = true) : ¬ yT Q (tp Q t) = 0 := by
  unfold gB at h
  simp only [Bool.and_eq_true, decide_eq_true_eq] at h
  omega
theorem wB_y {Q : TA} {k t : Nat} (h : wB Q k t = true) : ¬ yT Q (tp Q t) = 0 := by
  unfold wB at h
  simp only [Bool.and_eq_true, decide_eq_true_eq] at h
  omega
theorem m_takeSign {Q : TA} {m t E : Nat} {σ : MM} (vQ : VTa Q) (hE : E < 20000) (h : SM Q m t E σ) (c : Int32) : wp (FX12_takeSign 249 c) σ (fun _ τ => SM Q m (st1 Q (gB Q c t) 1 t E).1 (st1 Q (gB Q c t) 1 t E).2 τ ∧ eqr Rat σ τ) := by
  unfold FX12_takeSign
  refine wp_eq (m_isSign vQ hE h c) ?_
  by_cases z : (decide (E = 0) && gB Q c t) = true
  · rw [if_neg (bt z)]
    rw [Bool.and_eq_true, decide_eq_true_eq] at z
    obtain ⟨rfl, zb⟩ := z
    rw [zb, st1_t]
    refine bd_asw (ws_gv h.2.2.2.1 (bd_asw (ws_s ?_)))
    exact wp_eq (show pu () _ = some ((), _) from rfl) (wp_pu (SM_1 h (t_lt h (gB_y zb))))
  · rw [if_pos (bf z)]
    refine bd_asw (wp_bd (m_wrong (k := 1) vQ hE h) (fun _ τ q => ?_))
    refine wp_eq (show pu () τ = some ((), τ) from rfl) (wp_pu ?_)
    have e : st1 Q (gB Q c t) 1 t E = (t, fE Q 1 t E) := by
      unfold fE
      by_cases e0 : E = 0
      · subst e0
        have : gB Q c t = false := by simpa using z
        rw [this, st1_f, if_pos rfl]
      · rw [st1_d e0, if_neg e0]
    rw [e]
    exact q
/-- it is there, and then it is taken -/
theorem m_hasSign {Q : TA} {m t E : Nat} {σ : MM} (vQ : VTa Q) (hE : E < 20000) (h : SM Q m t E σ) (c : Int32) : wp (FX12_hasSign 249 c) σ (fun r τ => r = (decide (E = 0) && gB Q c t) ∧ SM Q m (if r = true then t + 1 else t) E τ ∧ eqr Rat σ τ) := by
  unfold FX12_hasSign
  refine wp_eq (m_isSign vQ hE h c) ?_
  rw [lt_eq]
  refine ws_gv h.2.2.2.1 ?_
  by_cases z : (decide (E = 0) && gB Q c t) = true
  · rw [if_neg (bt z)]
    refine wp_eq (show pu (1 : Int32) σ = some (_, σ) from rfl) (ws_s (ws_z ⟨rfl, ?_⟩))
    rw [if_pos z]
    have zb : gB Q c t = true := by rw [Bool.and_eq_true] at z; exact z.2
    exact SM_1 h (t_lt h (gB_y zb))
  · rw [if_pos (bf z)]
    refine wp_eq (show pu (0 : Int32) σ = some (_, σ) from rfl) (ws_s (ws_z ⟨rfl, ?_⟩))
    rw [if_neg z]
    have hq : eqr Rat σ (up2 σ.1 249 7 (nI t + (0 : Int32)), σ.2) := eqr_up (by unfold Rat; omega)
    exact ⟨SM_r h hq (fun b j z => by unfold Rat at z; omega) h.2.2.1 (mm_at.trans (by simp)) ((mm_ne (by omega)).trans h.2.2.2.2), hq⟩
theorem m_hasWord {Q : TA} {m t E k : Nat} {σ : MM} (vQ : VTa Q) (hE : E < 20000) (hk : k < 23) (h : SM Q m t E σ) : wp (FX12_hasWord 249 (nI k)) σ (fun r τ => r = (decide (E = 0) && wB Q k t) ∧ SM Q m (if r = true then t + 1 else t) E τ ∧ eqr Rat σ τ) := by
  unfold FX12_hasWord
  refine wp_eq (m_isWord vQ hE hk h) ?_
  rw [lt_eq]
  refine ws_gv h.2.2.2.1 ?_
  by_cases z : (decide (E = 0) && wB Q k t) = true
  · rw [if_neg (bt z)]
    refine wp_eq (show pu (1 : Int32) σ = some (_, σ) from rfl) (ws_s (ws_z ⟨rfl, ?_⟩))
    rw [if_pos z]
    have zb : wB Q k t = true := by rw [Bool.and_eq_true] at z; exact z.2
    exact SM_1 h (t_lt h (wB_y zb))
  · rw [if_pos (bf z)]
    refine wp_eq (show pu (0 : Int32) σ = some (_, σ) from rfl) (ws_s (ws_z ⟨rfl, ?_⟩))
    rw [if_neg z]
    have hq : eqr Rat σ (up2 σ.1 249 7 (nI t + (0 : Int32)), σ.2) := eqr_up (by unfold Rat; omega)
    exact ⟨SM_r h hq (fun b j z => by unfold Rat at z; omega) h.2.2.1 (mm_at.trans (by simp)) ((mm_ne (by omega)).trans h.2.2.2.2), hq⟩
theorem m_takeWord {Q : TA} {m t E k : Nat} {σ : MM} (vQ : VTa Q) (hE : E < 20000) (hk : k < 23) (h : SM Q m t E σ) : wp (FX12_takeWord 249 (nI k)) σ (fun _ τ => SM Q m (st1 Q (wB Q k t) 1 t E).1 (st1 Q (wB Q k t) 1 t E).2 τ ∧ eqr Rat σ τ) := by
  unfold FX12_takeWord
  refine wp_bd (m_hasWord vQ hE hk h) ?_
  rintro r τ ⟨rfl, h2, hq⟩
  by_cases z : (decide (E = 0) && wB Q k t) = true
  · rw [if_neg (bt z)]
    rw [if_pos z] at h2
    rw [Bool.and_eq_true, decide_eq_true_eq] at z
    obtain ⟨rfl, zb⟩ := z
    rw [zb, st1_t]
    exact wp_eq (show pu () _ = some ((), _) from rfl) (wp_pu ⟨h2, hq⟩)
  · rw [if_pos (bf z)]
    rw [if_neg z] at h2
    refine bd_asw (wp_bd (m_wrong (k := 1) vQ hE h2) (fun _ τ q => ?_))
    refine wp_eq (show pu () τ = some ((), τ) from rfl) (wp_pu ?_)
    have e : st1 Q (wB Q k t) 1 t E = (t, fE Q 1 t E) := by
      unfold fE
      by_cases e0 : E = 0
      · subst e0
        have : wB Q k t = false := by simpa using z
        rw [this, st1_f, if_pos rfl]
      · rw [st1_d e0, if_neg e0]
    rw [e]
    exact ⟨q.1, eqr_tr hq q.2⟩
theorem m_takeNumber {Q : TA} {m t E lo hi : Nat} {σ : MM} (vQ : VTa Q) (hE : E < 20000) (hlo : lo < 100) (hhi : hi < 100) (h : SM Q m t E σ) : wp (FX12_takeNumber 249 (nI lo) (nI hi)) σ (fun r τ => SM Q m (stN Q lo hi t E).1 (stN Q lo hi t E).2 τ ∧ ((stN Q lo hi t E).2 = 0 → r = nI (nT Q (tp Q t))) ∧ eqr Rat σ τ) := by
  obtain ⟨hm1, hm2⟩ := SM_m vQ h
  obtain ⟨l1, l2, l3⟩ := h.1.2.2.2 t h.2.2.1
  unfold FX12_takeNumber stN
  rw [r249_4, r249_6]
  refine ws_gv h.2.2.2.2 ?_
  have fin : ∀ (P : Nat × Nat) (υ : MM), ¬ P.2 = 0 → P.2 < 20000 → SM Q m P.1 P.2 υ → eqr Rat σ υ → wp (bd (gI 249 8) (fun x15 => if x15 ≤ 0 then bd (gI 249 7) (fun x16 => bd (sI 249 7 (x16 + (1 : Int32))) (fun (_ : Unit) => bd (gI 249 7) (fun x17 => bd (aL 253 1002 (x17 - (1 : Int32))) (fun x18 => pu x18.toInt32)))) else pu (0 : Int32))) υ (fun r τ => SM Q m P.1 P.2 τ ∧ (P.2 = 0 → r = nI (nT Q (tp Q t))) ∧ eqr Rat σ τ) := by
    intro P υ hn hl hs hq
    refine ws_gv hs.2.2.2.2 ?_
    rw [if_neg (nI_nle (by omega) (by omega))]
    exact wp_pu ⟨hs, fun z => absurd z hn, hq⟩
  have y4 := yT_4 (Q := Q) (i := tp Q t)
  by_cases e0 : E = 0
  · subst e0
    rw [if_pos rfl, jn_eq, if_pos (show nI 0 = 0 from rfl)]
    refine bd_asw (ws_gv h.2.2.2.1 (bd_asw (ws_a (by omega) (by decide) l1 ?_)))
    by_cases y2 : yT Q (tp Q t) = 2
    · rw [if_pos (show nI (yT Q (tp Q t)) = 2 by rw [y2]; rfl), if_pos y2]
      have hn := nT_lt (tp_le (Q := Q) t) y2
      have ev := l3.2.1 y2
      refine bd_asw (ws_gv h.2.2.2.2 ?_)
      rw [if_pos (show nI 0 = 0 from rfl)]
      refine bd_asw (ws_gv h.2.2.2.1 (bd_asw (ws_aL (by omega) (by decide) ev ?_)))
      rw [nI_l (by omega), nI_l (by omega)]
      have c1 : lg_cmp (lN (nT Q (tp Q t))) (lN lo) < 0 ↔ nT Q (tp Q t) < lo := by rw [lg_cmp_lt, lN_lt (by omega) (by omega)]
      have c2 : lg_cmp (lN (nT Q (tp Q t))) (lN hi) ≤ 0 ↔ nT Q (tp Q t) ≤ hi := by rw [lg_cmp_le, lN_le (by omega) (by omega)]
      by_cases z1 : nT Q (tp Q t) < lo
      · rw [if_pos (c1.mpr z1), if_neg (fun q => by omega)]
        refine bd_asw (wp_bd (m_wrong (k := 4) vQ hE h) (fun _ τ q => ?_))
        exact wp_eq (show pu () τ = some ((), τ) from rfl) (fin (t, fc Q 4 t) τ (fc_ne (by decide)) (fc_lt vQ (by decide)) q.1 q.2)
      · rw [if_neg (fun q => z1 (c1.mp q))]
        refine bd_asw (ws_gv h.2.2.2.1 (bd_asw (ws_aL (by omega) (by decide) ev ?_)))
        by_cases z2 : nT Q (tp Q t) ≤ hi
        · rw [if_pos (c2.mpr z2), if_pos ⟨by omega, z2⟩]
          refine wp_eq (show pu () σ = some ((), σ) from rfl) (ws_gv h.2.2.2.2 ?_)
          rw [if_pos (show nI 0 ≤ 0 by decide)]
          have ht := t_lt h (by omega)
          obtain ⟨s1, s2⟩ := SM_1 h ht
          refine ws_gv h.2.2.2.1 (ws_s (ws_gv s1.2.2.2.1 ?_))
          rw [show nI (t + 1) - (1 : Int32) = nI t from pk_sub (b := 1) (by omega)]
          refine ws_aL (by omega) (by decide) ev (wp_pu ⟨s1, fun _ => lN_i _, s2⟩)
        · rw [if_neg (fun q => z2 (c2.mp q)), if_neg (fun q => z2 q.2)]
          refine bd_asw (wp_bd (m_wrong (k := 4) vQ hE h) (fun _ τ q => ?_))
          exact wp_eq (show pu () τ = some ((), τ) from rfl) (fin (t, fc Q 4 t) τ (fc_ne (by decide)) (fc_lt vQ (by decide)) q.1 q.2)
    · rw [if_neg (show ¬ nI (yT Q (tp Q t)) = 2 from fun q => y2 ((nI_eq (b := 2) (by omega) (by decide)).mp q)), if_neg y2]
      refine bd_asw (wp_bd (m_wrong (k := 1) vQ hE h) (fun _ τ q => ?_))
      exact wp_eq (show pu () τ = some ((), τ) from rfl) (fin (t, fc Q 1 t) τ (fc_ne (by decide)) (fc_lt vQ (by decide)) q.1 q.2)
  · rw [if_neg e0, jn_eq, if_neg (nI_ne0 (by omega) (by omega))]
    refine bd_asw (ws_gv h.2.2.2.2 ?_)
    rw [if_neg (nI_ne0 (by omega) (by omega))]
    exact wp_eq (show pu () σ = some ((), σ) from rfl) (fin (t, E) σ e0 hE h eqr_rf)
def whF (Q : TA) (E f t : Nat) : Nat → Int32
  | 0 => -1
  | k + 1 => if (decide (E = 0) && wB Q (f + k) t) = true then nI k else whF Q E f t k
theorem m_wordHere {Q : TA} {m t E f n : Nat} {σ : MM} (vQ : VTa Q) (hE : E < 20000) (hf : f + n ≤ 23) (h : SM Q m t E σ) : FX12_wordHere 249 (nI f) (nI n) σ = some (whF Q E f t n, σ) := by
  unfold FX12_wordHere
  refine (bd_it (fun k => (whF Q E f t k, nI k)) n rfl ?_ ?_ (by omega)).trans rfl
  · intro k hk
    have e1 := m_isWord (k := f + k) vQ hE (by omega) h
    rw [← nI_add] at e1
    have es : whF Q E f t (k + 1) = if (decide (E = 0) && wB Q (f + k) t) = true then nI k else whF Q E f t k := rfl
    rw [es]
    rw [if_neg (nle_n hk (by omega))]
    refine (ev_bd e1).trans ?_
    by_cases z : (decide (E = 0) && wB Q (f + k) t) = true
    · rw [if_neg (bt z), if_pos z]
      show some _ = some _
      rw [nI_1]
    · rw [if_pos (bf z), if_neg z]
      show some _ = some _
      rw [nI_1]
  · rw [if_pos (le_nn (by omega))]
    rfl
theorem wh_cs (Q : TA) (E f t : Nat) : ∀ n, n < 100 → (whF Q E f t n = -1 ∧ ∀ k, k < n → (decide (E = 0) && wB Q (f + k) t) = false) ∨ ∃ k, k < n ∧ (decide (E = 0) && wB Q (f + k) t) = true ∧ whF Q E f t n = nI k
  | 0, _ => Or.inl ⟨rfl, fun k hk => by omega⟩
  | n + 1, hn => by
    have es : whF Q E f t (n + 1) = if (decide (E = 0) && wB Q (f + n) t) = true then nI n else whF Q E f t n := rfl
    by_cases z : (decide (E = 0) && wB Q (f + n) t) = true
    · exact Or.inr ⟨n, by omega, z, by rw [es, if_pos z]⟩
    · rcases wh_cs Q E f t n (by omega) with ⟨h1, h2⟩ | ⟨k, h1, h2, h3⟩
      · refine Or.inl ⟨by rw [es, if_neg z, h1], fun k hk => ?_⟩
        by_cases q : k = n
        · rw [q]; simpa using z
        · exact h2 k (by omega)
      · exact Or.inr ⟨k, by omega, h2, by rw [es, if_neg z, h3]⟩
theorem wtx_inj : ∀ j, j < 23 → ∀ k, k < 23 → wtx j = wtx k → j = k := by decide +kernel
theorem m_isName {Q : TA} {m t E : Nat} {σ : MM} (vQ : VTa Q) (hE : E < 20000) (h : SM Q m t E σ) : FX12_isName 249 σ = some (decide (E = 0) && nmB Q t, σ) := by
  obtain ⟨hm1, hm2⟩ := SM_m vQ h
  obtain ⟨l1, l2, l3⟩ := h.1.2.2.2 t h.2.2.1
  have e8 : gI 249 8 σ = some (nI E, σ) := by unfold gI; rw [h.2.2.2.2]
  have e7 : gI 249 7 σ = some (nI t, σ) := by unfold gI; rw [h.2.2.2.1]
  have e1 := ev_aI (a := 251) (n := 1002) (σ := σ) (show t < 1002 by omega) (by decide)
  rw [l1] at e1
  have y4 := yT_4 (Q := Q) (i := tp Q t)
  unfold FX12_isName
  rw [r249_4]
  refine (ev_bd e8).trans ?_
  by_cases e0 : E = 0
  · rw [if_pos (show nI E = 0 by rw [e0]; rfl), bd_as]
    refine (ev_bd e7).trans ?_
    rw [bd_as]
    refine (ev_bd e1).trans ?_
    by_cases y1 : yT Q (tp Q t) = 1
    · rw [if_pos (show nI (yT Q (tp Q t)) = 1 by rw [y1]; rfl), bd_as]
      refine (ev_bd (m_wordHere (f := 0) (n := 19) vQ hE (by decide) h)).trans ?_
      unfold nmB
      rcases wh_cs Q E 0 t 19 (by decide) with ⟨h1, h2⟩ | ⟨k, h1, h2, h3⟩
      · rw [h1, if_neg (by decide)]
        cases hx : wix (wT Q (tp Q t)) with
        | none => simp [e0, y1, bd, pu, zb]
        | some j =>
          have hj : 19 ≤ j.val := by
            apply Classical.byContradiction
            intro z
            have := h2 j.val (by omega)
            rw [Nat.zero_add] at this
            unfold wB at this
            rw [wix_iff.mp hx] at this
            simp [e0, y1] at this
          simp [e0, y1, hj, bd, pu, zb]
      · rw [h3, if_pos (nI_pos' (by omega))]
        rw [Nat.zero_add, Bool.and_eq_true] at h2
        have hw := h2.2
        unfold wB at hw
        simp only [Bool.and_eq_true, decide_eq_true_eq] at hw
        have hx : wix (wT Q (tp Q t)) = some ⟨k, by omega⟩ := wix_iff.mpr hw.2
        rw [hx]
        simp [show ¬ 19 ≤ k by omega, bd, pu, zb]
    · rw [if_neg (show ¬ nI (yT Q (tp Q t)) = 1 from fun q => y1 ((nI_eq (b := 1) (by omega) (by decide)).mp q))]
      unfold nmB
      simp [y1, bd, pu, zb]
  · rw [if_neg (nI_ne0 (by omega) (by omega))]
    simp [e0, bd, pu, zb]
