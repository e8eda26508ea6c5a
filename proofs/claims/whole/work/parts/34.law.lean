/-! ===== the law of drying ===== -/
def opnd (s d l u c : Int32) : Int32 := if s = -4 then c else if s = -3 then u else if s = -2 then l else if s = -1 then d else s
def jn2 (s x y : Int32) : Int32 := if s = -11 then x - y else if s = -10 then x + y else if s = -9 then (if x = y then 1 else 0) else if s = -8 then (if y ≤ x then 0 else 1) else if s = -7 then (if x = 0 then (if y = 0 then 0 else 1) else 1) else if s = -6 then (if x = 0 then 0 else if y = 0 then 0 else 1) else x * y
theorem c_operand (s d l u c : Int32) (σ : MM) : FX0_operand s d l u c σ = some (opnd s d l u c, σ) := by
  unfold FX0_operand opnd
  by_cases a1 : s = -4
  · simp [tsw, pu, a1]
  by_cases a2 : s = -3
  · simp [tsw, pu, a2]
  by_cases a3 : s = -2
  · simp [tsw, pu, a3]
  by_cases a4 : s = -1
  · simp [tsw, pu, a4]
  simp [tsw, pu, a1, a2, a3, a4]
theorem c_join (s x y : Int32) (σ : MM) : FX0_join s x y σ = some (jn2 s x y, σ) := by
  unfold FX0_join jn2
  by_cases a1 : s = -11
  · simp [tsw, pu, a1]
  by_cases a2 : s = -10
  · simp [tsw, pu, a2]
  by_cases a3 : s = -9
  · by_cases e : x = y <;> simp [tsw, pu, bd, a3, e]
  by_cases a4 : s = -8
  · by_cases e : y ≤ x <;> simp [tsw, pu, bd, a4, e]
  by_cases a5 : s = -7
  · by_cases e : x = 0 <;> by_cases e2 : y = 0 <;> simp [tsw, pu, bd, a5, e, e2]
  by_cases a6 : s = -6
  · by_cases e : x = 0 <;> by_cases e2 : y = 0 <;> simp [tsw, pu, bd, a6, e, e2]
  simp [tsw, pu, a1, a2, a3, a4, a5, a6]
theorem lt_eq {α β : Type} (e : α) (k : α → PP β) : lt e k = k e := rfl
/-- how high the stack is behind k steps -/
def hg (st : Nat → Int32) : Nat → Nat
  | 0 => 0
  | k + 1 => if st k < -4 then (if st k = -5 then hg st k else hg st k - 1) else hg st k + 1
/-- what the stack's row holds behind k steps -/
def sv (opn : Int32 → Int32) (st r0 : Nat → Int32) : Nat → Nat → Int32
  | 0 => r0
  | k + 1 => if st k < -4 then (if st k = -5 then (fun i => if i = hg st k - 1 then (if sv opn st r0 k (hg st k - 1) = 0 then 1 else 0) else sv opn st r0 k i) else (fun i => if i = hg st k - 2 then jn2 (st k) (sv opn st r0 k (hg st k - 2)) (sv opn st r0 k (hg st k - 1)) else sv opn st r0 k i)) else (fun i => if i = hg st k then opn (st k) else sv opn st r0 k i)
def okS (st : Nat → Int32) (k : Nat) : Prop := if st k < -4 then (if st k = -5 then 1 ≤ hg st k ∧ hg st k ≤ 24 else 2 ≤ hg st k ∧ hg st k ≤ 24) else hg st k < 24
def WF (st : Nat → Int32) (m : Nat) : Prop := (∀ k, k < m → okS st k) ∧ hg st m = 1
theorem sv_ind {opn : Int32 → Int32} {st r0 r1 : Nat → Int32} {m : Nat} (hw : ∀ k, k < m → okS st k) : ∀ k, k ≤ m → ∀ i, i < hg st k → sv opn st r0 k i = sv opn st r1 k i
  | 0, _, i, hi => by simp [hg] at hi
  | k + 1, hk, i, hi => by
    have ih := sv_ind (opn := opn) (r0 := r0) (r1 := r1) hw k (by omega)
    have ok := hw k (by omega)
    unfold okS at ok
    simp only [sv]
    simp only [hg] at hi
    by_cases q1 : st k < -4
    · by_cases q2 : st k = -5
      · have q1' : (-5 : Int32) < -4 := by decide
        simp only [q1', q2, if_true] at ok hi ⊢
        rw [ih _ (by omega)]
        by_cases q3 : i = hg st k - 1
        · simp [q3]
        · simp [q3, ih i hi]
      · simp only [q1, q2, if_true, if_false] at ok hi ⊢
        rw [ih _ (by omega), ih (hg st k - 1) (by omega)]
        by_cases q3 : i = hg st k - 2
        · simp [q3]
        · simp [q3, ih i (by omega)]
    · simp only [q1, if_false] at ok hi ⊢
      by_cases q3 : i = hg st k
      · simp [q3]
      · simp [q3, ih i (by omega)]
def clp (v : Int32) : Int32 := if (0 : Int32) < (if v < 9 then v else 9) then (if v < 9 then v else 9) else 0
theorem c_drop {σ : MM} {m : Nat} (hm : σ.1 12 2 = nI m) (hm2 : m ≤ 1000) (hw : WF (σ.1 13) m) (d l u c : Int32) : ∃ τ, FX0_drop 12 d l u c σ = some (clp (sv (fun s => opnd s d l u c) (σ.1 13) (σ.1 14) m 0), τ) ∧ eqx (fun b => b = 14) σ τ := by
  obtain ⟨w1, w2⟩ := hw
  refine ⟨(setr σ.1 14 (sv (fun s => opnd s d l u c) (σ.1 13) (σ.1 14) m), σ.2), ?_, ⟨fun b hb => setr_ne hb, rfl⟩⟩
  unfold FX0_drop
  rw [r12_0, r12_1]
  refine (bd_its (r := nI 1) (σ' := (setr σ.1 14 (sv (fun s => opnd s d l u c) (σ.1 13) (σ.1 14) m), σ.2)) (fun k => (nI (hg (σ.1 13) k), nI k)) (fun k => (setr σ.1 14 (sv (fun s => opnd s d l u c) (σ.1 13) (σ.1 14) k), σ.2)) m rfl ?_ ?_ ?_ (by omega)).trans ?_
  · show σ = (setr σ.1 14 (σ.1 14), σ.2)
    rw [setr_self]
  · intro k hk
    have ok := w1 k hk
    unfold okS at ok
    generalize hG : sv (fun s => opnd s d l u c) (σ.1 13) (σ.1 14) k = g
    have hG2 := fun i => congrFun hG i
    have g0 : gI 12 2 ((setr σ.1 14 g, σ.2) : MM) = some (nI m, (setr σ.1 14 g, σ.2)) := by unfold gI; simp only [setr_ne (show (12 : Nat) ≠ 14 by decide), hm]
    have g1 : aI 13 1000 (nI k) ((setr σ.1 14 g, σ.2) : MM) = some (σ.1 13 k, (setr σ.1 14 g, σ.2)) := by rw [ev_aI (by omega) (by decide)]; simp only [setr_ne (show (13 : Nat) ≠ 14 by decide)]
    have g2 : ∀ i, i < 24 → aI 14 24 (nI i) ((setr σ.1 14 g, σ.2) : MM) = some (g i, (setr σ.1 14 g, σ.2)) := fun i hi => by rw [ev_aI hi (by decide)]; simp only [setr_at]
    have g3 : ∀ i x, i < 24 → uI 14 24 (nI i) x ((setr σ.1 14 g, σ.2) : MM) = some ((), (setr σ.1 14 (fun j => if j = i then x else g j), σ.2)) := fun i x hi => by rw [ev_uI hi (by decide)]; simp only [up2_setr]
    generalize hH : hg (σ.1 13) k = h at ok
    by_cases q1 : σ.1 13 k < -4
    · by_cases q2 : σ.1 13 k = -5
      · have q1' : (-5 : Int32) < -4 := by decide
        simp only [q1', q2, if_true] at ok
        have hs : hg (σ.1 13) (k + 1) = h := by simp only [hg, q1', q2, if_true, hH]
        have hsv : sv (fun s => opnd s d l u c) (σ.1 13) (σ.1 14) (k + 1) = (fun i => if i = h - 1 then (if g (h - 1) = 0 then 1 else 0) else g i) := by simp only [sv, q1', q2, if_true, hH, hG]
        have i1 : nI h - (1 : Int32) = nI (h - 1) := pk_sub (b := 1) ok.1
        have i2 : ¬ nI h ≤ 0 := nI_nle (by omega) (by omega)
        have e2 := g2 (h - 1) (by omega)
        have e3 := fun x => g3 (h - 1) x (by omega)
        rw [hs, hsv]
        by_cases q3 : g (h - 1) = 0 <;> simp [bd, g0, nle_n hk (by omega), g1, q1', q2, i1, i2, e2, e3, q3, lt, pu, nI_1]
      · simp only [q1, q2, if_true, if_false] at ok
        have hs : hg (σ.1 13) (k + 1) = h - 1 := by simp only [hg, q1, q2, if_true, if_false, hH]
        have hsv : sv (fun s => opnd s d l u c) (σ.1 13) (σ.1 14) (k + 1) = (fun i => if i = h - 2 then jn2 (σ.1 13 k) (g (h - 2)) (g (h - 1)) else g i) := by simp only [sv, q1, q2, if_true, if_false, hH, hG]
        have i1 : nI h + (-1 : Int32) = nI (h - 1) := sb_m1 (by omega)
        have i3 : nI (h - 1) - (1 : Int32) = nI (h - 2) := by
          have := pk_sub (a := h - 1) (b := 1) (by omega)
          rw [show h - 1 - 1 = h - 2 by omega] at this
          exact this
        have i2 : ¬ nI h ≤ 1 := nle_n (a := 1) (by omega) (by omega)
        have e2 := g2 (h - 1) (by omega)
        have e4 := g2 (h - 2) (by omega)
        have e3 := fun x => g3 (h - 2) x (by omega)
        rw [hs, hsv]
        refine (ev_bd g0).trans ?_
        rw [if_neg (nle_n hk (by omega))]
        refine (ev_bd g1).trans ?_
        refine (ev_bd (x := nI (h - 1)) (σ1 := (setr σ.1 14 (fun i => if i = h - 2 then jn2 (σ.1 13 k) (g (h - 2)) (g (h - 1)) else g i), σ.2)) ?_).trans ?_
        · rw [if_pos q1, if_neg q2, if_neg i2]
          rw [i1]
          rw [lt_eq]
          rw [i3]
          refine (ev_bd e4).trans ?_
          refine (ev_bd e2).trans ?_
          refine (ev_bd (c_join _ _ _ _)).trans ?_
          exact ev_bd (e3 _)
        · show some _ = some _
          rw [nI_1]
    · simp only [q1, if_false] at ok
      have hs : hg (σ.1 13) (k + 1) = h + 1 := by simp only [hg, q1, if_false, hH]
      have hsv : sv (fun s => opnd s d l u c) (σ.1 13) (σ.1 14) (k + 1) = (fun i => if i = h then opnd (σ.1 13 k) d l u c else g i) := by simp only [sv, q1, if_false, hH, hG]
      have i2 : ¬ (24 : Int32) ≤ nI h := nle_n (b := 24) ok (by decide)
      have e3 := fun x => g3 h x ok
      rw [hs, hsv]
      simp [bd, g0, nle_n hk (by omega), g1, q1, i2, e3, c_operand, lt, pu, nI_1]
  · have g0 : ∀ g : Nat → Int32, gI 12 2 ((setr σ.1 14 g, σ.2) : MM) = some (nI m, (setr σ.1 14 g, σ.2)) := fun g => by unfold gI; simp only [setr_ne (show (12 : Nat) ≠ 14 by decide), hm]
    simp [bd, g0, le_nn (show m < 2 ^ 31 by omega), pu, w2]
  · have g2 : aI 14 24 (0 : Int32) ((setr σ.1 14 (sv (fun s => opnd s d l u c) (σ.1 13) (σ.1 14) m), σ.2) : MM) = some (sv (fun s => opnd s d l u c) (σ.1 13) (σ.1 14) m 0, (setr σ.1 14 (sv (fun s => opnd s d l u c) (σ.1 13) (σ.1 14) m), σ.2)) := by
      rw [show (0 : Int32) = nI 0 from rfl, ev_aI (by decide) (by decide)]
      simp only [setr_at]
    have i2 : ¬ nI 1 ≤ 0 := by decide
    simp [bd, i2, g2, pu, clp]
/-! the model's codes, and the class's steps -/
def cst (o a : Int32) : Int32 := if o = 1 then a else if o = 2 then -1 - a else if o = 3 then -5 else if o = 4 then -10 else if o = 5 then -11 else if o = 6 then -12 else if o = 7 then -8 else if o = 8 then -9 else if o = 9 then -6 else -7
theorem m_both {o x y : Int32} {a : Int32} (h1 : ¬ o = 1) (h2 : ¬ o = 2) (h3 : ¬ o = 3) (σ : MM) : FX12_both o x y σ = some (jn2 (cst o a) x y, σ) := by
  unfold FX12_both
  by_cases a1 : o = 4
  · subst a1
    rw [show cst 4 a = -10 from rfl]
    simp [tsw, pu, jn2]
  by_cases a2 : o = 5
  · subst a2
    rw [show cst 5 a = -11 from rfl]
    simp [tsw, pu, jn2]
  by_cases a3 : o = 6
  · subst a3
    rw [show cst 6 a = -12 from rfl]
    simp [tsw, pu, jn2]
  by_cases a4 : o = 7
  · subst a4
    rw [show cst 7 a = -8 from rfl]
    by_cases e : y ≤ x <;> simp [tsw, pu, bd, jn2, e]
  by_cases a5 : o = 8
  · subst a5
    rw [show cst 8 a = -9 from rfl]
    by_cases e : x = y <;> simp [tsw, pu, bd, jn2, e]
  by_cases a6 : o = 9
  · subst a6
    rw [show cst 9 a = -6 from rfl]
    by_cases e : x = 0 <;> by_cases e2 : y = 0 <;> simp [tsw, pu, bd, jn2, e, e2]
  have hc : cst o a = -7 := by simp [cst, h1, h2, h3, a1, a2, a3, a4, a5, a6]
  rw [hc]
  by_cases e : x = 0 <;> by_cases e2 : y = 0 <;> simp [tsw, pu, bd, jn2, a1, a2, a3, a4, a5, a6, e, e2]
