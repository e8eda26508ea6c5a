/-! ===== a line of a morning: its stages ===== -/
/-- a name that is asked for, or not -/
def sg (Q : TA) (T : TW) (N : NM) (r : Nat) (ask : Bool) (t E : Nat) (R : Nat × Nat × Int32) : Prop := (ask = false ∧ R = (t, E, 0)) ∨ (ask = true ∧ ∃ L, lk Q (N r) (T.1 r) t E L ∧ R = (nx t L.2, L.2, oI L.1 0))
theorem sg_ex (Q : TA) (T : TW) (N : NM) (r : Nat) (ask : Bool) (t E : Nat) : ∃ R, sg Q T N r ask t E R := by
  cases ask with
  | false => exact ⟨_, Or.inl ⟨rfl, rfl⟩⟩
  | true =>
    obtain ⟨L, hL⟩ := lk_ex Q (N r) (T.1 r) t E
    exact ⟨_, Or.inr ⟨rfl, L, hL, rfl⟩⟩
theorem sg_m {Q : TA} {T : TW} {N : NM} {r : Nat} {ask : Bool} {m t E : Nat} {R : Nat × Nat × Int32} (vQ : VTa Q) (hend : yT Q (tp Q m) = 0) (ht : t ≤ m) (hE : E < 20000) (h : sg Q T N r ask t E R) : R.1 ≤ m ∧ t ≤ R.1 ∧ R.2.1 < 20000 ∧ (R.2.1 = 0 → E = 0 ∧ (ask = true → ∃ i, i < T.1 r ∧ R.2.2 = nI i)) := by
  rcases h with ⟨h, rfl⟩ | ⟨h, L, hL, rfl⟩
  · exact ⟨ht, Nat.le_refl t, hE, fun q => ⟨q, fun z => by rw [h] at z; cases z⟩⟩
  · obtain ⟨l1, l2, l3⟩ := lk_E vQ hE hL
    by_cases z : L.2 = 0
    · have hy := lk_y hL z (fun _ _ => trivial)
      have e : nx t L.2 = t + 1 := by unfold nx; rw [if_pos z]
      refine ⟨by show nx t L.2 ≤ m; rw [e]; exact t_ltm hend ht (by omega), by show t ≤ nx t L.2; rw [e]; omega, l1, fun q => ⟨l3 q, fun _ => ?_⟩⟩
      cases hx : L.1 with
      | none => exact absurd z (l2.mp hx)
      | some i => exact ⟨i, (lk_s hL hx).1, rfl⟩
    · have e : nx t L.2 = t := by unfold nx; rw [if_neg z]
      exact ⟨by show nx t L.2 ≤ m; rw [e]; exact ht, by show t ≤ nx t L.2; rw [e]; exact Nat.le_refl t, l1, fun q => absurd q z⟩
theorem oI_a {o : Option Nat} {i : Nat} (h : oI o 0 = nI i) (hs : ∃ k, o = some k) : oI o (-1) = nI i := by
  obtain ⟨k, rfl⟩ := hs
  exact h
theorem m_sg {Q : TA} {T : TW} {N : NM} {r : Nat} {ask : Bool} {m t E : Nat} {R : Nat × Nat × Int32} {β : Type} {k : Int32 → PP β} {P : β → MM → Prop} {σ : MM} {c : Prop} [Decidable c] (vQ : VTa Q) (hE : E < 20000) (hr : r = 0 ∨ r = 2) (hV : VTn T) (hN : VNa T N) (hc : c ↔ ask = true) (hS : SM Q m t E σ) (hM : MNb 258 260 18 T N σ) (hR : sg Q T N r ask t E R) (h : ∀ τ, SM Q m R.1 R.2.1 τ → eqr Rat σ τ → wp (k R.2.2) τ P) : wp (bd (if c then bd (FX12_takeTold 249 (nI 0) (nI (20 * r))) (fun x9 => pu x9) else pu (0 : Int32) : PP (Int32)) k) σ P := by
  rcases hR with ⟨ha, rfl⟩ | ⟨ha, L, hL, rfl⟩
  · rw [if_neg (fun q => by have := hc.mp q; rw [ha] at this; cases this)]
    exact wp_eq (show pu (0 : Int32) σ = some (_, σ) from rfl) (h σ hS eqr_rf)
  · rw [if_pos (hc.mpr ha)]
    refine bd_asw (wp_bd (m_takeTold (p := 0) vQ hE hr (by decide) hV.1.1 hV.1.2.1 hV.1.2.2.1 hN hS hM hL) ?_)
    rintro x τ ⟨rfl, s1, f1⟩
    exact wp_eq (show pu _ τ = some (_, τ) from rfl) (h τ s1 f1)
theorem c_sg {Q : TA} {T : TW} {N : NM} {r : Nat} {ask : Bool} {t E n a mm w : Nat} {R : Nat × Nat × Int32} {β : Type} {K0 : Unit → PP Unit} {K : Unit → PP β} {P : β → MM → Prop} {σ : MM} {c : Prop} [Decidable c] (vQ : VTa Q) (hE : E < 20000) (hr : r < 3) (hm : T.1 r ≤ mm) (hm2 : mm < 1000) (hN : VNa T N) (hw : 33 ≤ w ∧ w ≤ 37) (hn : n < 40) (hc : c ↔ ask = true) (ea : σ.1 3 a = nI (T.1 r)) (en : σ.1 33 4 = nI n) (hCN : CNb 4 T N σ) (hS : SC Q t E σ) (hR : sg Q T N r ask t E R) (h0 : ask = false → wp (K ()) σ P) (h : ask = true → ∀ τ, SC Q R.1 R.2.1 τ → FPc σ τ → (R.2.1 = 0 → τ.1 w n = R.2.2) → (∀ b j, 33 ≤ b → b ≤ 37 → ¬ (b = w ∧ j = n) → τ.1 b j = σ.1 b j) → wp (bd (K0 ()) K) τ P) : wp (bd (if c then bd (gI 33 4) (fun x3 => bd (gI 3 a) (fun x4 => bd (FX5_findName 1 (4 + r) x4 mm) (fun x5 => bd (uI w 40 x3 x5) (fun (_ : Unit) => bd (FX5_advance 1) K0)))) else pu () : PP (Unit)) K) σ P := by
  rcases hR with ⟨ha, rfl⟩ | ⟨ha, L, hL, rfl⟩
  · rw [if_neg (fun q => by have := hc.mp q; rw [ha] at this; cases this)]
    exact wp_eq (show pu () σ = some ((), σ) from rfl) (h0 ha)
  · rw [if_pos (hc.mpr ha)]
    obtain ⟨l1, l2, l3⟩ := lk_E vQ hE hL
    have key := c_takeName (K := fun (_ : Unit) => bd (K0 ()) K) (P := P) vQ hE hr hm hm2 hN hw hn ea en hCN hS hL (fun τ s1 f1 e1 g1 => h ha τ s1 f1 (fun z => by
      cases hx : L.1 with
      | none => exact absurd z (l2.mp hx)
      | some i => rw [e1, hx]; rfl) g1)
    obtain ⟨x, τ, e, q⟩ := key
    refine ⟨x, τ, ?_, q⟩
    rw [← e]
    simp only [bd_as]
