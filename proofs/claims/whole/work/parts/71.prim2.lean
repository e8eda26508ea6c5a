/-! ===== what both readers expect ===== -/
def st1 (Q : TA) (b : Bool) (k t E : Nat) : Nat × Nat := if E = 0 then (if b = true then (t + 1, 0) else (t, fc Q k t)) else (t, E)
theorem st1_t {Q : TA} {k t : Nat} : st1 Q true k t 0 = (t + 1, 0) := rfl
theorem st1_f {Q : TA} {k t : Nat} : st1 Q false k t 0 = (t, fc Q k t) := rfl
theorem st1_d {Q : TA} {b : Bool} {k t E : Nat} (h : ¬ E = 0) : st1 Q b k t E = (t, E) := by unfold st1; rw [if_neg h]
theorem yT_4 {Q : TA} {i : Nat} : yT Q i ≤ 4 := by
  unfold yT
  split
  · split
    · split <;> omega
    · split
      · split <;> omega
      · split <;> omega
  · omega
theorem kd_iff {Q : TA} {i : Nat} {c : Int32} (h0 : ¬ c = 0) (h1 : ¬ c = 1) (h2 : ¬ c = 2) (h3 : ¬ c = 3) : kdT Q i = c ↔ yT Q i = 3 ∧ Q.2 (sT Q i) = c := by
  unfold kdT
  by_cases a0 : yT Q i = 0
  · rw [if_pos a0]; exact ⟨fun e => absurd e.symm h0, fun e => by omega⟩
  rw [if_neg a0]
  by_cases a1 : yT Q i = 1
  · rw [if_pos a1]; exact ⟨fun e => absurd e.symm h2, fun e => by omega⟩
  rw [if_neg a1]
  by_cases a2 : yT Q i = 2
  · rw [if_pos a2]; exact ⟨fun e => absurd e.symm h3, fun e => by omega⟩
  rw [if_neg a2]
  by_cases a3 : yT Q i = 3
  · rw [if_pos a3]; exact ⟨fun e => ⟨a3, e⟩, fun e => e.2⟩
  rw [if_neg a3]
  exact ⟨fun e => absurd e.symm h1, fun e => absurd e.1 a3⟩
theorem S_ex {c : Int32} (h : isS c = true) : ∃ q, 40 ≤ q ∧ q ≤ 61 ∧ c = nI q := by
  unfold isS at h
  simp only [Bool.or_eq_true, decide_eq_true_eq] at h
  rcases h with h | h | h | h | h | h | h | h
  · exact ⟨40, by decide, by decide, h⟩
  · exact ⟨41, by decide, by decide, h⟩
  · exact ⟨59, by decide, by decide, h⟩
  · exact ⟨61, by decide, by decide, h⟩
  · exact ⟨60, by decide, by decide, h⟩
  · exact ⟨43, by decide, by decide, h⟩
  · exact ⟨45, by decide, by decide, h⟩
  · exact ⟨42, by decide, by decide, h⟩
theorem y3_S {Q : TA} {i : Nat} (h : yT Q i = 3) : isS (Q.2 (sT Q i)) = true := by
  unfold yT at h
  split at h
  · split at h
    · split at h <;> omega
    · split at h
      · split at h <;> omega
      · split at h
        · assumption
        · omega
  · omega
theorem kd_3 {Q : TA} {i : Nat} : kdT Q i = 3 ↔ yT Q i = 2 := by
  unfold kdT
  by_cases a0 : yT Q i = 0
  · rw [if_pos a0]; exact ⟨fun e => absurd e (by decide), fun e => by omega⟩
  rw [if_neg a0]
  by_cases a1 : yT Q i = 1
  · rw [if_pos a1]; exact ⟨fun e => absurd e (by decide), fun e => by omega⟩
  rw [if_neg a1]
  by_cases a2 : yT Q i = 2
  · rw [if_pos a2]; exact ⟨fun _ => a2, fun _ => rfl⟩
  rw [if_neg a2]
  by_cases a3 : yT Q i = 3
  · rw [if_pos a3]
    obtain ⟨q, q1, q2, q3⟩ := S_ex (y3_S a3)
    rw [q3]
    exact ⟨fun e => by have := (nI_eq (b := 3) (by omega) (by decide)).mp e; omega, fun e => absurd e a2⟩
  rw [if_neg a3]
  exact ⟨fun e => absurd e (by decide), fun e => absurd e a2⟩
theorem kd_0 {Q : TA} {i : Nat} : kdT Q i = 0 ↔ yT Q i = 0 := by
  unfold kdT
  by_cases a0 : yT Q i = 0
  · rw [if_pos a0]; exact ⟨fun _ => a0, fun _ => rfl⟩
  rw [if_neg a0]
  by_cases a1 : yT Q i = 1
  · rw [if_pos a1]; exact ⟨fun e => absurd e (by decide), fun e => absurd e a0⟩
  rw [if_neg a1]
  by_cases a2 : yT Q i = 2
  · rw [if_pos a2]; exact ⟨fun e => absurd e (by decide), fun e => absurd e a0⟩
  rw [if_neg a2]
  by_cases a3 : yT Q i = 3
  · rw [if_pos a3]
    obtain ⟨q, q1, q2, q3⟩ := S_ex (y3_S a3)
    rw [q3]
    exact ⟨fun e => by have := (nI_eq (b := 0) (by omega) (by decide)).mp e; omega, fun e => absurd e a0⟩
  rw [if_neg a3]
  exact ⟨fun e => absurd e (by decide), fun e => absurd e a0⟩
theorem kd_2 {Q : TA} {i : Nat} : kdT Q i = 2 ↔ yT Q i = 1 := by
  unfold kdT
  by_cases a0 : yT Q i = 0
  · rw [if_pos a0]; exact ⟨fun e => absurd e (by decide), fun e => by omega⟩
  rw [if_neg a0]
  by_cases a1 : yT Q i = 1
  · rw [if_pos a1]; exact ⟨fun _ => a1, fun _ => rfl⟩
  rw [if_neg a1]
  by_cases a2 : yT Q i = 2
  · rw [if_pos a2]; exact ⟨fun e => absurd e (by decide), fun e => absurd e a1⟩
  rw [if_neg a2]
  by_cases a3 : yT Q i = 3
  · rw [if_pos a3]
    obtain ⟨q, q1, q2, q3⟩ := S_ex (y3_S a3)
    rw [q3]
    exact ⟨fun e => by have := (nI_eq (b := 2) (by omega) (by decide)).mp e; omega, fun e => absurd e a1⟩
  rw [if_neg a3]
  exact ⟨fun e => absurd e (by decide), fun e => absurd e a1⟩
theorem wr_iff {Q : TA} {t : Nat} {w : Fin 23} : wrT Q (tp Q t) = some w ↔ wB Q w.val t = true := by
  unfold wrT wB
  by_cases a1 : yT Q (tp Q t) = 1
  · rw [if_pos a1, wix_iff]
    simp [a1]
  · rw [if_neg a1]
    simp [a1]
/-- the class's word and kind, alive or not -/
theorem SC_w {Q : TA} {t E : Nat} {σ : MM} (h : SC Q t E σ) : σ.2.2 = if E = 0 then wrT Q (tp Q t) else none := by
  by_cases z : E = 0
  · rw [if_pos z]; exact (h.2.2.1 z).2.1
  · rw [if_neg z]; exact (h.2.2.2 z).2.1
theorem SC_k {Q : TA} {t E : Nat} {σ : MM} (h : SC Q t E σ) : σ.1 1 2 = if E = 0 then kdT Q (tp Q t) else 0 := by
  by_cases z : E = 0
  · rw [if_pos z]; exact (h.2.2.1 z).1
  · rw [if_neg z]; exact (h.2.2.2 z).1
theorem w_eq {Q : TA} {t E : Nat} {w : Fin 23} : ((if E = 0 then wrT Q (tp Q t) else none) = some w) = ((decide (E = 0) && wB Q w.val t) = true) := by
  apply propext
  by_cases z : E = 0
  · rw [if_pos z, wr_iff]; simp [z]
  · rw [if_neg z]; simp [z]
theorem k_eq {Q : TA} {t E : Nat} {c : Int32} (h0 : ¬ c = 0) (h1 : ¬ c = 1) (h2 : ¬ c = 2) (h3 : ¬ c = 3) : ((if E = 0 then kdT Q (tp Q t) else 0) = c) = ((decide (E = 0) && gB Q c t) = true) := by
  apply propext
  by_cases z : E = 0
  · rw [if_pos z, kd_iff h0 h1 h2 h3]; simp [z, gB]
  · rw [if_neg z]
    simp [z]
    exact fun e => h0 e.symm
theorem c_expectWord {Q : TA} {t E : Nat} {σ : MM} (vQ : VTa Q) (hE : E < 20000) (w : Fin 23) (h : SC Q t E σ) : wp (FX5_expectWord 1 (some w)) σ (fun _ τ => SC Q (st1 Q (wB Q w.val t) 1 t E).1 (st1 Q (wB Q w.val t) 1 t E).2 τ ∧ FT σ τ) := by
  unfold FX5_expectWord
  refine ws_gW (SC_w h) ?_
  by_cases z : (decide (E = 0) && wB Q w.val t) = true
  · rw [if_pos (by rw [w_eq]; exact z)]
    rw [Bool.and_eq_true, decide_eq_true_eq] at z
    obtain ⟨rfl, zb⟩ := z
    rw [zb, st1_t]
    refine bd_asw (wp_bd (c_adv vQ h) (fun _ τ q => ?_))
    exact wp_eq (show pu () τ = some ((), τ) from rfl) (wp_pu q)
  · rw [if_neg (by rw [w_eq]; exact z)]
    refine bd_asw (wp_bd (c_fail (k := 1) (by decide) hE h) (fun _ τ q => ?_))
    refine wp_eq (show pu () τ = some ((), τ) from rfl) (wp_pu ?_)
    have e : st1 Q (wB Q w.val t) 1 t E = (t, fE Q 1 t E) := by
      unfold fE
      by_cases e0 : E = 0
      · subst e0
        have : wB Q w.val t = false := by simpa using z
        rw [this, st1_f, if_pos rfl]
      · rw [st1_d e0, if_neg e0]
    rw [e]
    exact q
theorem c_expectSign {Q : TA} {t E : Nat} {σ : MM} {c : Int32} (vQ : VTa Q) (hE : E < 20000) (h0 : ¬ c = 0) (h1 : ¬ c = 1) (h2 : ¬ c = 2) (h3 : ¬ c = 3) (h : SC Q t E σ) : wp (FX5_expectSign 1 c) σ (fun _ τ => SC Q (st1 Q (gB Q c t) 1 t E).1 (st1 Q (gB Q c t) 1 t E).2 τ ∧ FT σ τ) := by
  unfold FX5_expectSign
  refine ws_gv (SC_k h) ?_
  by_cases z : (decide (E = 0) && gB Q c t) = true
  · rw [if_pos (by rw [k_eq h0 h1 h2 h3]; exact z)]
    rw [Bool.and_eq_true, decide_eq_true_eq] at z
    obtain ⟨rfl, zb⟩ := z
    rw [zb, st1_t]
    refine bd_asw (wp_bd (c_adv vQ h) (fun _ τ q => ?_))
    exact wp_eq (show pu () τ = some ((), τ) from rfl) (wp_pu q)
  · rw [if_neg (by rw [k_eq h0 h1 h2 h3]; exact z)]
    refine bd_asw (wp_bd (c_fail (k := 1) (by decide) hE h) (fun _ τ q => ?_))
    refine wp_eq (show pu () τ = some ((), τ) from rfl) (wp_pu ?_)
    have e : st1 Q (gB Q c t) 1 t E = (t, fE Q 1 t E) := by
      unfold fE
      by_cases e0 : E = 0
      · subst e0
        have : gB Q c t = false := by simpa using z
        rw [this, st1_f, if_pos rfl]
      · rw [st1_d e0, if_neg e0]
    rw [e]
    exact q
def stN (Q : TA) (lo hi t E : Nat) : Nat × Nat := if E = 0 then (if yT Q (tp Q t) = 2 then (if lo ≤ nT Q (tp Q t) ∧ nT Q (tp Q t) ≤ hi then (t + 1, 0) else (t, fc Q 4 t)) else (t, fc Q 1 t)) else (t, E)
theorem dgs_lt {Q : TA} {s : Nat} : ∀ m, (∀ k, k < m → isD (Q.2 (s + k)) = true) → dgs Q s m < 10 ^ m
  | 0, _ => by show 0 < 1; decide
  | m + 1, h => by
    have h1 := dgs_lt m (fun k hk => h k (by omega))
    obtain ⟨q, q1, q2, q3⟩ := D_ex (h m (by omega))
    show dgs Q s m * 10 + ((Q.2 (s + m)).toNatClampNeg - 48) < _
    rw [q3, cl_n (by omega), Nat.pow_succ]
    omega
theorem nT_lt {Q : TA} {i : Nat} (hi : i ≤ Q.1) (h : yT Q i = 2) : nT Q i < 10000 := by
  obtain ⟨e1, e2, e3⟩ := eT_le hi
  have hs : sT Q i < Q.1 := by
    apply Classical.byContradiction
    intro z
    rw [yT_0 z] at h
    omega
  have hl : ¬ isL (Q.2 (sT Q i)) = true := by
    intro z
    unfold yT at h
    rw [if_pos hs, if_pos z] at h
    split at h <;> omega
  have hd : isD (Q.2 (sT Q i)) = true := by
    apply Classical.byContradiction
    intro z
    unfold yT at h
    rw [if_pos hs, if_neg hl, if_neg z] at h
    split at h <;> omega
  have h4 : eT Q i - sT Q i ≤ 4 := by
    apply Classical.byContradiction
    intro z
    unfold yT at h
    rw [if_pos hs, if_neg hl, if_pos hd, if_neg z] at h
    omega
  have ee : eT Q i = run (fun k => isD (Q.2 k)) (sT Q i) (Q.1 - sT Q i) := by unfold eT; rw [if_pos hs, if_neg hl, if_pos hd]
  have rin := run_in (p := fun k => isD (Q.2 k)) (Q.1 - sT Q i) (sT Q i)
  rw [← ee] at rin
  have h1 := dgs_lt (Q := Q) (s := sT Q i) (eT Q i - sT Q i) (fun k hk => rin (sT Q i + k) (by omega) (by omega))
  have h2 : 10 ^ (eT Q i - sT Q i) ≤ 10 ^ 4 := Nat.pow_le_pow_right (by decide) h4
  have h3 : (10 : Nat) ^ 4 = 10000 := by decide
  unfold nT
  omega
theorem c_expectNumber {Q : TA} {t E lo hi : Nat} {σ : MM} (vQ : VTa Q) (hE : E < 20000) (hlo : lo < 100) (hhi : hi < 100) (h : SC Q t E σ) : wp (FX5_expectNumber 1 (nI lo) (nI hi)) σ (fun r τ => SC Q (stN Q lo hi t E).1 (stN Q lo hi t E).2 τ ∧ ((stN Q lo hi t E).2 = 0 → r = nI (nT Q (tp Q t))) ∧ FT σ τ) := by
  unfold FX5_expectNumber stN
  refine ws_gv (x := σ.1 1 5) rfl (ws_gv (SC_k h) ?_)
  have dead : ∀ k, 0 < k → ∀ (P : Nat × Nat), P = (t, fE Q k t E) → ¬ fE Q k t E = 0 → wp (bd (bd (FX5_fail 1 (nI k)) (fun (_ : Unit) => pu ())) (fun (v7 : Unit) => pu (σ.1 1 5))) σ (fun r τ => SC Q P.1 P.2 τ ∧ (P.2 = 0 → r = nI (nT Q (tp Q t))) ∧ FT σ τ) := by
    intro k hk P hP hn
    rw [hP]
    refine bd_asw (wp_bd (c_fail (k := k) hk hE h) (fun _ τ q => ?_))
    exact wp_eq (show pu () τ = some ((), τ) from rfl) (wp_pu ⟨q.1, fun z => absurd z hn, q.2⟩)
  by_cases e0 : E = 0
  · subst e0
    rw [if_pos rfl, if_pos rfl]
    by_cases y2 : yT Q (tp Q t) = 2
    · rw [if_pos (kd_3.mpr y2), if_pos y2]
      have hn := nT_lt (tp_le (Q := Q) t) y2
      have e5 := (h.2.2.1 rfl).2.2.2.1 y2
      rw [e5]
      rw [e5] at dead
      by_cases z1 : nI (nT Q (tp Q t)) < nI lo
      · rw [if_pos z1, if_neg (fun q => by have := (nI_ltI (by omega) (by omega)).mp z1; omega)]
        exact dead 4 (by decide) _ rfl (fc_ne (by decide))
      · have z1' : lo ≤ nT Q (tp Q t) := by
          apply Classical.byContradiction
          intro n
          exact z1 ((nI_ltI (by omega) (by omega)).mpr (by omega))
        rw [if_neg z1]
        by_cases z2 : nT Q (tp Q t) ≤ hi
        · rw [if_pos ((nI_leI (by omega) (by omega)).mpr z2), if_pos ⟨z1', z2⟩]
          refine bd_asw (wp_bd (c_adv vQ h) (fun _ τ q => ?_))
          exact wp_eq (show pu () τ = some ((), τ) from rfl) (wp_pu ⟨q.1, fun _ => rfl, q.2⟩)
        · rw [if_neg (fun q => z2 ((nI_leI (by omega) (by omega)).mp q)), if_neg (fun q => z2 q.2)]
          exact dead 4 (by decide) _ rfl (fc_ne (by decide))
    · rw [if_neg (fun q => y2 (kd_3.mp q)), if_neg y2]
      exact dead 1 (by decide) _ rfl (fc_ne (by decide))
  · rw [if_neg e0, if_neg e0, if_neg (by decide)]
    exact dead 1 (by decide) _ (by unfold fE; rw [if_neg e0]) (by unfold fE; rw [if_neg e0]; exact e0)
def nmB (Q : TA) (t : Nat) : Bool := decide (yT Q (tp Q t) = 1) && (match wix (wT Q (tp Q t)) with
  | none => true
  | some k => decide (19 ≤ k.val))
theorem wgr_2 : ∀ k : Fin 23, (wgr.getD k.val 0 = 2 ↔ 19 ≤ k.val) ∧ (wgr.getD k.val 0 = 1 ↔ 12 ≤ k.val ∧ k.val < 16) := by decide +kernel
theorem c_isName {Q : TA} {t E : Nat} {σ : MM} (h : SC Q t E σ) : FX5_isName 1 σ = some (decide (E = 0) && nmB Q t, σ) := by
  unfold FX5_isName
  refine (ev_bd (show gI 1 2 σ = some (σ.1 1 2, σ) from rfl)).trans ?_
  rw [SC_k h]
  have gw : gW σ = some ((if E = 0 then wrT Q (tp Q t) else none), σ) := by unfold gW; rw [SC_w h]
  by_cases e0 : E = 0
  · rw [if_pos e0] at gw ⊢
    by_cases y1 : yT Q (tp Q t) = 1
    · rw [if_pos (kd_2.mpr y1), bd_as]
      refine (ev_bd gw).trans ?_
      have ew : wrT Q (tp Q t) = wix (wT Q (tp Q t)) := by unfold wrT; rw [if_pos y1]
      rw [ew] at gw ⊢
      unfold nmB
      cases hx : wix (wT Q (tp Q t)) with
      | none =>
        rw [if_pos rfl]
        simp [e0, y1, bd, pu, zb]
      | some k =>
        rw [hx] at gw
        rw [if_neg (by simp), bd_as]
        refine (ev_bd gw).trans ?_
        rw [bd_as]
        refine (ev_bd (show nn (some k) σ = some (k, σ) from rfl)).trans ?_
        by_cases z : 19 ≤ k.val
        · rw [if_pos ((wgr_2 k).1.mpr z)]
          simp [e0, y1, z, bd, pu, zb]
        · rw [if_neg (fun q => z ((wgr_2 k).1.mp q))]
          simp [e0, y1, z, bd, pu, zb]
    · rw [if_neg (fun q => y1 (kd_2.mp q))]
      unfold nmB
      simp [y1, bd, pu, zb]
  · rw [if_neg e0, if_neg (by decide)]
    simp [e0, bd, pu, zb]
