/-! ===== reading: words told apart, the reader's state ===== -/
def pN (b : Nat) (w : List Nat) : Nat := w.foldl (fun v x => v * b + x) 0
theorem pN_s (b : Nat) (w : List Nat) (x : Nat) : pN b (w ++ [x]) = pN b w * b + x := by unfold pN; rw [List.foldl_append]; rfl
theorem ls_end : ∀ w : List Nat, w = [] ∨ ∃ u x, w = u ++ [x]
  | [] => Or.inl rfl
  | a :: r => by
    rcases ls_end r with rfl | ⟨u, x, rfl⟩
    · exact Or.inr ⟨[], a, rfl⟩
    · exact Or.inr ⟨a :: u, x, rfl⟩
theorem ls_ind {P : List Nat → Prop} (h0 : P []) (hs : ∀ u x, P u → P (u ++ [x])) : ∀ (n : Nat) (w : List Nat), w.length = n → P w
  | 0, w, h => by
    rw [List.length_eq_zero_iff.mp h]; exact h0
  | n + 1, w, h => by
    rcases ls_end w with rfl | ⟨u, x, rfl⟩
    · cases h
    · rw [List.length_append] at h
      have h' : u.length + 1 = n + 1 := h
      exact hs u x (ls_ind h0 hs n u (by omega))
theorem p32_N (w : List Nat) : p32 w = lN (pN 32 w) := by
  refine ls_ind (P := fun w => p32 w = lN (pN 32 w)) rfl (fun u x ih => ?_) w.length w rfl
  rw [p32_s, pN_s, ih, show (32 : Int64) = lN 32 from rfl, lN_mul, lN_add]
theorem p37_N (w : List Nat) : p37 w = lN (pN 37 w) := by
  refine ls_ind (P := fun w => p37 w = lN (pN 37 w)) rfl (fun u x ih => ?_) w.length w rfl
  rw [p37_s, pN_s, ih, show (37 : Int64) = lN 37 from rfl, lN_mul, lN_add, Nat.mul_comm]
theorem pN_lt {b : Nat} (hb : 27 ≤ b) (w : List Nat) (hw : ∀ x, x ∈ w → x ≤ 26) : pN b w < b ^ w.length := by
  revert hw
  refine ls_ind (P := fun w => (∀ x, x ∈ w → x ≤ 26) → pN b w < b ^ w.length) (fun _ => by show 0 < 1; decide) (fun u x ih hw => ?_) w.length w rfl
  have h1 := ih (fun y hy => hw y (List.mem_append_left _ hy))
  have h2 := hw x (by simp)
  rw [pN_s, List.length_append]
  show pN b u * b + x < b ^ (u.length + 1)
  rw [Nat.pow_succ]
  have : (pN b u + 1) * b ≤ b ^ u.length * b := Nat.mul_le_mul_right b h1
  rw [Nat.add_mul] at this
  omega
theorem pN_inj {b : Nat} (hb : 27 ≤ b) : ∀ (n : Nat) (w v : List Nat), w.length = n → (∀ x, x ∈ w → 1 ≤ x ∧ x ≤ 26) → (∀ x, x ∈ v → 1 ≤ x ∧ x ≤ 26) → pN b w = pN b v → w = v
  | 0, w, v, h, _, hv, e => by
    rw [List.length_eq_zero_iff.mp h] at e ⊢
    rcases ls_end v with rfl | ⟨u, x, rfl⟩
    · rfl
    · rw [pN_s] at e
      have := (hv x (by simp)).1
      have e' : 0 = pN b u * b + x := e
      omega
  | n + 1, w, v, h, hw, hv, e => by
    rcases ls_end w with rfl | ⟨u, x, rfl⟩
    · cases h
    · have hx := hw x (by simp)
      rcases ls_end v with rfl | ⟨u2, y, rfl⟩
      · rw [pN_s] at e
        have e' : pN b u * b + x = 0 := e
        omega
      · have hy := hv y (by simp)
        rw [pN_s, pN_s] at e
        have h1 : (pN b u * b + x) % b = x := by rw [Nat.add_comm, Nat.add_mul_mod_self_right]; exact Nat.mod_eq_of_lt (by omega)
        have h2 : (pN b u2 * b + y) % b = y := by rw [Nat.add_comm, Nat.add_mul_mod_self_right]; exact Nat.mod_eq_of_lt (by omega)
        have hm : x = y := by rw [← h1, e, h2]
        subst hm
        have hd : pN b u = pN b u2 := by
          have : pN b u * b = pN b u2 * b := by omega
          exact Nat.eq_of_mul_eq_mul_right (by omega) this
        rw [List.length_append] at h
        have h' : u.length + 1 = n + 1 := h
        rw [pN_inj hb n u u2 (by omega) (fun z hz => hw z (List.mem_append_left _ hz)) (fun z hz => hv z (List.mem_append_left _ hz)) hd]

theorem w_lt {w : List Nat} (h : isW w) {b : Nat} (hb : 27 ≤ b) (hb2 : b ≤ 37) : pN b w < 2 ^ 63 := by
  have h1 := pN_lt hb w (fun x hx => (h.2.2 x hx).2)
  have h2 : b ^ w.length ≤ 37 ^ 8 := Nat.le_trans (Nat.pow_le_pow_left hb2 _) (Nat.pow_le_pow_right (by decide) h.2.1)
  have h3 : (37 : Nat) ^ 8 < 2 ^ 63 := by decide
  omega
theorem p37_inj {w v : List Nat} (hw : isW w) (hv : isW v) (h : p37 w = p37 v) : w = v := by
  rw [p37_N, p37_N, pk_lEQ (w_lt hw (by decide) (by decide)) (w_lt hv (by decide) (by decide))] at h
  exact pN_inj (b := 37) (by decide) w.length w v rfl hw.2.2 hv.2.2 h
theorem p32_inj {w v : List Nat} (hw : isW w) (hv : isW v) (h : p32 w = p32 v) : w = v := by
  rw [p32_N, p32_N, pk_lEQ (w_lt hw (by decide) (by decide)) (w_lt hv (by decide) (by decide))] at h
  exact pN_inj (b := 32) (by decide) w.length w v rfl hw.2.2 hv.2.2 h
theorem wtx_ok : ∀ k, k < 23 → (wtx k ≠ [] ∧ (wtx k).length ≤ 8 ∧ ∀ x, x ∈ wtx k → 1 ≤ x ∧ x ≤ 26) ∧ wtb.getD k 0 = p37 (wtx k) := by decide +kernel
theorem wT_ok {Q : TA} {i : Nat} (hi : i ≤ Q.1) (h : yT Q i = 1) : isW (wT Q i) := by
  obtain ⟨e1, e2, e3⟩ := eT_le hi
  have hs : sT Q i < Q.1 := by
    apply Classical.byContradiction
    intro z
    rw [yT_0 z] at h
    omega
  have hl : isL (Q.2 (sT Q i)) = true := by
    apply Classical.byContradiction
    intro z
    unfold yT at h
    rw [if_pos hs, if_neg z] at h
    split at h
    · split at h <;> omega
    · split at h <;> omega
  have h8 : eT Q i - sT Q i ≤ 8 := by
    apply Classical.byContradiction
    intro z
    unfold yT at h
    rw [if_pos hs, if_pos hl, if_neg z] at h
    omega
  have ee : eT Q i = run (fun k => isL (Q.2 k)) (sT Q i) (Q.1 - sT Q i) := by unfold eT; rw [if_pos hs, if_pos hl]
  have rin := run_in (p := fun k => isL (Q.2 k)) (Q.1 - sT Q i) (sT Q i)
  rw [← ee] at rin
  unfold wT
  refine ⟨fun z => ?_, by rw [wd_len]; exact h8, fun x hx => ?_⟩
  · have := congrArg List.length z
    rw [wd_len] at this
    have h3 := e3 hs
    have : eT Q i - sT Q i = 0 := this
    omega
  · unfold wd at hx
    rw [List.mem_map] at hx
    obtain ⟨k, hk, rfl⟩ := hx
    rw [List.mem_range] at hk
    obtain ⟨q, q1, q2, q3⟩ := L_ex (rin (sT Q i + k) (by omega) (by omega))
    rw [q3, cl_n (by omega)]
    omega
/-! questions of a token -/
def wB (Q : TA) (k t : Nat) : Bool := decide (yT Q (tp Q t) = 1) && decide (wT Q (tp Q t) = wtx k)
def gB (Q : TA) (c : Int32) (t : Nat) : Bool := decide (yT Q (tp Q t) = 3) && decide (Q.2 (sT Q (tp Q t)) = c)
def fc (Q : TA) (k t : Nat) : Nat := k + 16 * sT Q (tp Q t)
/-- the class reads on: at token t, or with the fault E -/
def SC (Q : TA) (t E : Nat) (σ : MM) : Prop := CTa Q σ ∧ σ.1 1 6 = nI E ∧ (E = 0 → TkC Q (tp Q t) σ) ∧ (¬ E = 0 → σ.1 1 2 = 0 ∧ σ.2.2 = none ∧ σ.1 1 8 = nI Q.1)
/-- the model likewise -/
def SM (Q : TA) (m t E : Nat) (σ : MM) : Prop := TkM Q m σ ∧ (∀ i, i < 23 → σ.2.1 254 i = wtb.getD i 0) ∧ t ≤ m ∧ σ.1 249 7 = nI t ∧ σ.1 249 8 = nI E
theorem fc_lt {Q : TA} (vQ : VTa Q) {k t : Nat} (hk : k < 10) : fc Q k t < 20000 := by
  have h1 := (sT_le (tp_le (Q := Q) t)).2
  have h2 := vQ.1
  unfold fc
  omega
theorem fc_ne {Q : TA} {k t : Nat} (hk : 0 < k) : ¬ fc Q k t = 0 := by unfold fc; omega
theorem SC_f {Q : TA} {t E : Nat} {σ τ : MM} (h : SC Q t E σ) (e1 : ∀ j, τ.1 1 j = σ.1 1 j) (e2 : ∀ j, τ.1 2 j = σ.1 2 j) (e3 : τ.2.1 1 4 = σ.2.1 1 4) (e4 : τ.2.2 = σ.2.2) : SC Q t E τ := by
  obtain ⟨h1, h2, h3, h4⟩ := h
  refine ⟨⟨(e1 1).trans h1.1, fun i hi => (e2 i).trans (h1.2 i hi)⟩, (e1 6).trans h2, fun z => ?_, fun z => ?_⟩
  · obtain ⟨k1, k2, k3, k4, k5, k6⟩ := h3 z
    exact ⟨(e1 2).trans k1, e4.trans k2, fun y => e3.trans (k3 y), fun y => (e1 5).trans (k4 y), (e1 7).trans k5, (e1 8).trans k6⟩
  · obtain ⟨k1, k2, k3⟩ := h4 z
    exact ⟨(e1 2).trans k1, e4.trans k2, (e1 8).trans k3⟩
theorem c_adv {Q : TA} {t E : Nat} {σ : MM} (vQ : VTa Q) (h : SC Q t E σ) : wp (FX5_advance 1) σ (fun _ τ => SC Q (t + 1) E τ ∧ FT σ τ) := by
  obtain ⟨h1, h2, h3, h4⟩ := h
  by_cases z : E = 0
  · obtain ⟨k1, k2, k3, k4, k5, k6⟩ := h3 z
    refine wp_mono (c_advance (i := tp Q (t + 1)) vQ h1 (tp_le _) k6) (fun _ τ q => ⟨⟨CTa_f q.2.2 h1, q.2.1.trans h2, fun _ => q.1, fun n => absurd z n⟩, q.2.2⟩)
  · obtain ⟨k1, k2, k3⟩ := h4 z
    refine wp_mono (c_advance (i := Q.1) vQ h1 (Nat.le_refl _) k3) (fun _ τ q => ⟨⟨CTa_f q.2.2 h1, q.2.1.trans h2, fun n => absurd n z, fun _ => ?_⟩, q.2.2⟩)
    have s0 : sT Q Q.1 = Q.1 := by
      have := sT_le (Q := Q) (Nat.le_refl Q.1)
      omega
    have y0 : yT Q Q.1 = 0 := yT_0 (by omega)
    have e0 : eT Q Q.1 = Q.1 := by unfold eT; rw [if_neg (by omega), s0]
    obtain ⟨q1, q2, -, -, -, q6⟩ := q.1
    refine ⟨?_, ?_, ?_⟩
    · rw [q1]; unfold kdT; rw [y0]; rfl
    · rw [q2]; unfold wrT; rw [y0]; rfl
    · rw [q6, e0]
def fE (Q : TA) (k t E : Nat) : Nat := if E = 0 then fc Q k t else E
theorem c_fail {Q : TA} {t E k : Nat} {σ : MM} (hk : 0 < k) (hE : E < 20000) (h : SC Q t E σ) : wp (FX5_fail 1 (nI k)) σ (fun _ τ => SC Q t (fE Q k t E) τ ∧ FT σ τ) := by
  obtain ⟨h1, h2, h3, h4⟩ := h
  unfold FX5_fail fE
  refine ws_gv h2 ?_
  have fin : ∀ (E2 : Nat) (υ : MM), ¬ E2 = 0 → υ.1 1 6 = nI E2 → FT σ υ → wp (bd (sI 1 2 (0 : Int32)) (fun (_ : Unit) => bd (sW none) (fun (_ : Unit) => bd (gI 1 1) (fun x4 => bd (sI 1 8 x4) (fun (_ : Unit) => pu ()))))) υ (fun _ τ => SC Q t E2 τ ∧ FT σ τ) := by
    intro E2 υ hn h6 hF
    have hQ := CTa_f hF h1
    refine ws_s (ws_sW (ws_gv (x := nI Q.1) ((mm_ne (by omega)).trans hQ.1) (ws_s (wp_pu ?_))))
    have hF2 : FT σ (up2 (up2 υ.1 1 2 0) 1 8 (nI Q.1), υ.2.1, none) := FT_tr hF (FT_tr (FT_i (by decide)) (FT_tr (FT_w (w := none)) (FT_i (by decide))))
    exact ⟨⟨CTa_f hF2 h1, (mm_ne (by omega)).trans ((mm_ne (by omega)).trans h6), fun z => absurd z hn, fun _ => ⟨(mm_ne (by omega)).trans mm_at, rfl, mm_at⟩⟩, hF2⟩
  by_cases z : E = 0
  · rw [if_pos (by rw [z]; rfl), if_pos z]
    obtain ⟨k1, k2, k3, k4, k5, k6⟩ := h3 z
    refine bd_asw (ws_gv k5 (bd_asw (ws_s ?_)))
    refine wp_eq (show pu () _ = some ((), _) from rfl) (fin _ _ (fc_ne hk) (mm_at.trans ?_) (FT_i (by decide)))
    rw [show (16 : Int32) = nI 16 from rfl, pk_mul, nI_add]
    rfl
  · rw [if_neg (nI_ne0 (by omega) (by omega)), if_neg z]
    exact wp_eq (show pu () σ = some ((), σ) from rfl) (fin E σ z h2 FT_rf)
