/-! ===== the model's law of drying ===== -/
/-- the model's codes (rows 256, 257) are the steps st, m of them, and an end -/
def LM (σ : MM) (st : Nat → Int32) (m : Nat) : Prop := (∀ k, k < m → ∃ o : Nat, 1 ≤ o ∧ o ≤ 10 ∧ σ.1 256 k = nI o ∧ st k = cst (nI o) (σ.1 257 k) ∧ (o = 1 → ∃ v : Nat, v < 10000 ∧ σ.1 257 k = nI v) ∧ (o = 2 → ∃ v : Nat, v < 4 ∧ σ.1 257 k = nI v)) ∧ σ.1 256 m = 0
theorem cst_1 (a : Int32) : cst (nI 1) a = a := rfl
theorem cst_2 (a : Int32) : cst (nI 2) a = -1 - a := rfl
theorem cst_3 (a : Int32) : cst (nI 3) a = -5 := rfl
theorem cst_big : ∀ o, 4 ≤ o → o ≤ 10 → ∀ a, cst (nI o) a < -4 ∧ ¬ cst (nI o) a = -5 := by
  intro o h1 h2 a
  rcases (show o = 4 ∨ o = 5 ∨ o = 6 ∨ o = 7 ∨ o = 8 ∨ o = 9 ∨ o = 10 by omega) with rfl | rfl | rfl | rfl | rfl | rfl | rfl
  · rw [show cst (nI 4) a = -10 from rfl]; decide
  · rw [show cst (nI 5) a = -11 from rfl]; decide
  · rw [show cst (nI 6) a = -12 from rfl]; decide
  · rw [show cst (nI 7) a = -8 from rfl]; decide
  · rw [show cst (nI 8) a = -9 from rfl]; decide
  · rw [show cst (nI 9) a = -6 from rfl]; decide
  · rw [show cst (nI 10) a = -7 from rfl]; decide
theorem nn4 {v : Nat} (h : v < 10000) : ¬ nI v < -4 := fun q => by
  have h1 : 0 ≤ nI v := nI_pos' (by omega)
  have h2 := Int32.lt_iff_toInt_lt.mp q
  have h3 := Int32.le_iff_toInt_le.mp h1
  have e1 : (-4 : Int32).toInt = -4 := rfl
  have e2 : (0 : Int32).toInt = 0 := rfl
  omega
theorem opnd_nn {v : Nat} (h : v < 10000) (d l u c : Int32) : opnd (nI v) d l u c = nI v := by
  have h1 : ¬ nI v < 0 := nI_pos (by omega)
  have n1 : ¬ nI v = -1 := fun e => h1 (by rw [e]; decide)
  have n2 : ¬ nI v = -2 := fun e => h1 (by rw [e]; decide)
  have n3 : ¬ nI v = -3 := fun e => h1 (by rw [e]; decide)
  have n4 : ¬ nI v = -4 := fun e => h1 (by rw [e]; decide)
  simp [opnd, n1, n2, n3, n4]
def fct (σ : MM) : Int32 → Int32 := fun s => opnd s (σ.1 263 0) (σ.1 263 1) (σ.1 263 2) (σ.1 263 3)
theorem fct_2 {σ : MM} : ∀ v, v < 4 → fct σ (-1 - nI v) = σ.1 263 v := by
  intro v hv
  rcases (show v = 0 ∨ v = 1 ∨ v = 2 ∨ v = 3 by omega) with rfl | rfl | rfl | rfl
  · rw [show (-1 : Int32) - nI 0 = -1 by decide]; rfl
  · rw [show (-1 : Int32) - nI 1 = -2 by decide]; rfl
  · rw [show (-1 : Int32) - nI 2 = -3 by decide]; rfl
  · rw [show (-1 : Int32) - nI 3 = -4 by decide]; rfl
theorem nn5 : ∀ v, v < 4 → ¬ (-1 : Int32) - nI v < -4 := by decide +kernel
theorem jn_eq {α β γ : Type} (f : α → PP γ) (k : (α → PP γ) → PP β) : jn f k = k f := rfl
theorem m_worthAt {σ : MM} {st : Nat → Int32} {m : Nat} (hL : LM σ st m) (hm2 : m ≤ 1000) (hw : WF st m) : ∃ τ, FX12_worthAt 249 0 σ = some (sv (fct σ) st (σ.1 264) m 0, τ) ∧ eqx (fun b => b = 264) σ τ := by
  obtain ⟨w1, w2⟩ := hw
  refine ⟨(setr σ.1 264 (sv (fct σ) st (σ.1 264) m), σ.2), ?_, ⟨fun b hb => setr_ne hb, rfl⟩⟩
  unfold FX12_worthAt
  rw [r249_11, r249_12, r249_21, r249_22]
  refine (bd_its (r := ()) (σ' := (setr σ.1 264 (sv (fct σ) st (σ.1 264) m), σ.2)) (fun k => (nI (hg st k), nI k)) (fun k => (setr σ.1 264 (sv (fct σ) st (σ.1 264) k), σ.2)) m rfl ?_ ?_ ?_ (by omega)).trans ?_
  · show σ = (setr σ.1 264 (σ.1 264), σ.2)
    rw [setr_self]
  · intro k hk
    have ok := w1 k hk
    unfold okS at ok
    obtain ⟨o, ho1, ho2, eo, est, hn1, hn2⟩ := hL.1 k hk
    generalize hG : sv (fct σ) st (σ.1 264) k = g
    have g0 : aI 256 2200 (nI k) ((setr σ.1 264 g, σ.2) : MM) = some (nI o, (setr σ.1 264 g, σ.2)) := by rw [ev_aI (by omega) (by decide)]; simp only [setr_ne (show (256 : Nat) ≠ 264 by decide), eo]
    have g1 : aI 257 2200 (nI k) ((setr σ.1 264 g, σ.2) : MM) = some (σ.1 257 k, (setr σ.1 264 g, σ.2)) := by rw [ev_aI (by omega) (by decide)]; simp only [setr_ne (show (257 : Nat) ≠ 264 by decide)]
    have g2 : ∀ i, i < 25 → aI 264 1100 (nI i) ((setr σ.1 264 g, σ.2) : MM) = some (g i, (setr σ.1 264 g, σ.2)) := fun i hi => by rw [ev_aI (by omega) (by decide)]; simp only [setr_at]
    have g3 : ∀ i x, i < 25 → uI 264 1100 (nI i) x ((setr σ.1 264 g, σ.2) : MM) = some ((), (setr σ.1 264 (fun j => if j = i then x else g j), σ.2)) := fun i x hi => by rw [ev_uI (by omega) (by decide)]; simp only [up2_setr]
    have o0 : ¬ nI o = 0 := nI_ne0 (by omega) (by omega)
    generalize hH : hg st k = h at ok
    refine (ev_bd g0).trans ?_
    rw [if_neg o0]
    refine (ev_bd g0).trans ?_
    by_cases p1 : o = 1
    · subst p1
      obtain ⟨v, hv, ev⟩ := hn1 rfl
      rw [cst_1, ev] at est
      have q1 : ¬ st k < -4 := by rw [est]; exact nn4 hv
      simp only [q1, if_false] at ok
      have hs : hg st (k + 1) = h + 1 := by simp only [hg, q1, if_false, hH]
      have hsv : sv (fct σ) st (σ.1 264) (k + 1) = (fun i => if i = h then nI v else g i) := by
        simp only [sv, q1, if_false, hH, hG]
        rw [est, show fct σ (nI v) = nI v from opnd_nn hv _ _ _ _]
      have e1 : nI 1 = (1 : Int32) := rfl
      have e3 := g3 h (nI v) (by omega)
      rw [hs, hsv]
      simp [bd, jn, e1, g1, ev, e3, lt, pu, nI_1]
    · by_cases p2 : o = 2
      · subst p2
        obtain ⟨v, hv, ev⟩ := hn2 rfl
        rw [cst_2, ev] at est
        have q1 : ¬ st k < -4 := by rw [est]; exact nn5 v hv
        simp only [q1, if_false] at ok
        have hs : hg st (k + 1) = h + 1 := by simp only [hg, q1, if_false, hH]
        have hsv : sv (fct σ) st (σ.1 264) (k + 1) = (fun i => if i = h then σ.1 263 v else g i) := by
          simp only [sv, q1, if_false, hH, hG]
          rw [est, fct_2 v hv]
        have e1 : ¬ nI 2 = (1 : Int32) := by decide
        have e2 : nI 2 = (2 : Int32) := rfl
        have g4 : aI 263 4 (nI v) ((setr σ.1 264 g, σ.2) : MM) = some (σ.1 263 v, (setr σ.1 264 g, σ.2)) := by rw [ev_aI hv (by decide)]; simp only [setr_ne (show (263 : Nat) ≠ 264 by decide)]
        have e3 := g3 h (σ.1 263 v) (by omega)
        rw [hs, hsv]
        have n21 : ¬ (2 : Int32) = 1 := by decide
        simp [bd, jn, e2, n21, g1, ev, g4, e3, lt, pu, nI_1]
      · by_cases p3 : o = 3
        · subst p3
          rw [cst_3] at est
          have q1' : (-5 : Int32) < -4 := by decide
          simp only [est, q1', if_true] at ok
          have hs : hg st (k + 1) = h := by simp only [hg, est, q1', if_true, hH]
          have hsv : sv (fct σ) st (σ.1 264) (k + 1) = (fun i => if i = h - 1 then (if g (h - 1) = 0 then 1 else 0) else g i) := by simp only [sv, est, q1', if_true, hH, hG]
          have i1 : nI h - (1 : Int32) = nI (h - 1) := pk_sub (b := 1) ok.1
          have e2 := g2 (h - 1) (by omega)
          have e3 := fun x => g3 (h - 1) x (by omega)
          have n1 : ¬ nI 3 = (1 : Int32) := by decide
          have n2 : ¬ nI 3 = (2 : Int32) := by decide
          have n3 : nI 3 = (3 : Int32) := rfl
          rw [hs, hsv]
          by_cases q3 : g (h - 1) = 0 <;> simp [bd, jn, n1, n2, n3, i1, e2, e3, q3, lt, pu, nI_1]
        · obtain ⟨c1, c2⟩ := cst_big o (by omega) ho2 (σ.1 257 k)
          rw [← est] at c1 c2
          simp only [c1, c2, if_true, if_false] at ok
          have hs : hg st (k + 1) = h - 1 := by simp only [hg, c1, c2, if_true, if_false, hH]
          have hsv : sv (fct σ) st (σ.1 264) (k + 1) = (fun i => if i = h - 2 then jn2 (st k) (g (h - 2)) (g (h - 1)) else g i) := by simp only [sv, c1, c2, if_true, if_false, hH, hG]
          have i1 : nI h + (-1 : Int32) = nI (h - 1) := sb_m1 (by omega)
          have i3 : nI (h - 1) - (1 : Int32) = nI (h - 2) := by
            have := pk_sub (a := h - 1) (b := 1) (by omega)
            rw [show h - 1 - 1 = h - 2 by omega] at this
            exact this
          have e2 := g2 (h - 1) (by omega)
          have e4 := g2 (h - 2) (by omega)
          have e3 := fun x => g3 (h - 2) x (by omega)
          have n1 : ¬ nI o = (1 : Int32) := fun e => p1 ((nI_eq (by omega) (by decide)).mp (show nI o = nI 1 from e))
          have n2 : ¬ nI o = (2 : Int32) := fun e => p2 ((nI_eq (by omega) (by decide)).mp (show nI o = nI 2 from e))
          have n3 : ¬ nI o = (3 : Int32) := fun e => p3 ((nI_eq (by omega) (by decide)).mp (show nI o = nI 3 from e))
          have hj := fun (x y : Int32) (τ : MM) => m_both (x := x) (y := y) (a := σ.1 257 k) n1 n2 n3 τ
          rw [hs, hsv]
          refine (ev_bd (x := nI (h - 1)) (σ1 := (setr σ.1 264 (fun i => if i = h - 2 then jn2 (st k) (g (h - 2)) (g (h - 1)) else g i), σ.2)) ?_).trans ?_
          · rw [jn_eq, if_neg n1, if_neg n2, if_neg n3, i1, lt_eq, i3]
            refine (ev_bd e4).trans ?_
            refine (ev_bd e2).trans ?_
            refine (ev_bd (hj _ _ _)).trans ?_
            rw [← est]
            exact ev_bd (e3 _)
          · show some _ = some _
            rw [nI_1]
  · have g0 : ∀ g : Nat → Int32, aI 256 2200 (nI m) ((setr σ.1 264 g, σ.2) : MM) = some (0, (setr σ.1 264 g, σ.2)) := fun g => by rw [ev_aI (by omega) (by decide)]; simp only [setr_ne (show (256 : Nat) ≠ 264 by decide), hL.2]
    simp [bd, g0, pu]
  · have g2 : aI 264 1100 (0 : Int32) ((setr σ.1 264 (sv (fct σ) st (σ.1 264) m), σ.2) : MM) = some (sv (fct σ) st (σ.1 264) m 0, (setr σ.1 264 (sv (fct σ) st (σ.1 264) m), σ.2)) := by
      rw [show (0 : Int32) = nI 0 from rfl, ev_aI (by decide) (by decide)]
      simp only [setr_at]
    simp [bd, g2, pu]
