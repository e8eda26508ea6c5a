/-! ===== a line of a morning ===== -/
theorem SC_dd {Q : TA} {t t2 E : Nat} {σ : MM} (h0 : ¬ E = 0) (h : SC Q t E σ) : SC Q t2 E σ := ⟨h.1, h.2.1, fun z => absurd z h0, h.2.2.2⟩
def DCp (P : TO) (σ : MM) : Prop := σ.1 33 4 = nI P.1 ∧ ∀ i, i < P.1 → σ.1 34 i = P.2 0 i ∧ (¬ P.2 0 i = 3 → σ.1 35 i = P.2 1 i) ∧ (P.2 0 i = 0 → σ.1 36 i = P.2 2 i ∧ σ.1 37 i = P.2 3 i)
def DMp (P : TO) (σ : MM) : Prop := ∀ i, i < P.1 → σ.1 262 (165 + 4 * i) = P.2 0 i ∧ σ.1 262 (166 + 4 * i) = P.2 1 i ∧ σ.1 262 (167 + 4 * i) = P.2 2 i ∧ σ.1 262 (168 + 4 * i) = P.2 3 i
def FPc (σ τ : MM) : Prop := (∀ b j, ¬ ((b = 1 ∧ j ≠ 1) ∨ (33 ≤ b ∧ b ≤ 37)) → τ.1 b j = σ.1 b j) ∧ ∀ b j, b ≠ 1 → τ.2.1 b j = σ.2.1 b j
def RPm (b j : Nat) : Prop := (b = 249 ∧ (j = 7 ∨ j = 8)) ∨ (b = 262 ∧ 165 ≤ j)
theorem FPc_rf {σ : MM} : FPc σ σ := ⟨fun _ _ _ => rfl, fun _ _ _ => rfl⟩
theorem FPc_tr {σ τ υ : MM} (h1 : FPc σ τ) (h2 : FPc τ υ) : FPc σ υ := ⟨fun b j q => (h2.1 b j q).trans (h1.1 b j q), fun b j q => (h2.2 b j q).trans (h1.2 b j q)⟩
theorem FPc_t {σ τ : MM} (h : FT σ τ) : FPc σ τ := ⟨fun b j q => by
  by_cases z : b = 1
  · subst z
    have : j = 1 := by omega
    subst this
    exact h.2.1
  · exact h.1 b j z, fun b j q => h.2.2 b j q⟩
theorem FPc_u {σ : MM} {b j : Nat} {x : Int32} (h : 33 ≤ b ∧ b ≤ 37) : FPc σ (up2 σ.1 b j x, σ.2) := ⟨fun c k n => mm_ne (by omega), fun _ _ _ => rfl⟩
theorem Rat_pm {σ τ : MM} (h : eqr Rat σ τ) : eqr RPm σ τ := eqr_mono h (fun b j z => by unfold Rat at z; unfold RPm; omega)
theorem SC_u {Q : TA} {t E b j : Nat} {x : Int32} {σ : MM} (hb : 3 ≤ b) (h : SC Q t E σ) : SC Q t E (up2 σ.1 b j x, σ.2) := SC_f h (fun k => mm_ne (by omega)) (fun k => mm_ne (by omega)) rfl rfl
theorem SM_u {Q : TA} {m t E j : Nat} {x : Int32} {σ : MM} (h : SM Q m t E σ) : SM Q m t E (up2 σ.1 262 j x, σ.2) := SM_r h (R := fun b _ => b = 262) (eqr_up rfl) (fun b j z => by omega) h.2.2.1 ((mm_ne (by omega)).trans h.2.2.2.1) ((mm_ne (by omega)).trans h.2.2.2.2)
/-- the names of the street that stands -/
def CNm (T : TW) (N : NM) (σ : MM) : Prop := σ.1 3 9 = nI (T.1 0) ∧ σ.1 3 11 = nI (T.1 2) ∧ CNb 4 T N σ
theorem CNm_p {T : TW} {N : NM} {σ τ : MM} (h : FPc σ τ) (hN : CNm T N σ) : CNm T N τ := ⟨(h.1 _ _ (by omega)).trans hN.1, (h.1 _ _ (by omega)).trans hN.2.1, fun r hr i hi => (h.2 _ _ (by omega)).trans (hN.2.2 r hr i hi)⟩
theorem MNm_p {T : TW} {N : NM} {σ τ : MM} (h : eqr RPm σ τ) (hN : MNb 258 260 18 T N σ) : MNb 258 260 18 T N τ := MNb_a h (fun q => by unfold RPm at q; omega) (fun j q => by unfold RPm at q; omega) hN
/-- a name taken: the class writes it down, and goes on -/
theorem c_takeName {Q : TA} {T : TW} {N : NM} {t E r a n m w : Nat} {L : Option Nat × Nat} {β : Type} {K : Unit → PP β} {P : β → MM → Prop} {σ : MM} (vQ : VTa Q) (hE : E < 20000) (hr : r < 3) (hm : T.1 r ≤ m) (hm2 : m < 1000) (hV : VNa T N) (hw : 33 ≤ w ∧ w ≤ 37) (hn : n < 40) (ea : σ.1 3 a = nI (T.1 r)) (en : σ.1 33 4 = nI n) (hN : CNb 4 T N σ) (hS : SC Q t E σ) (hL : lk Q (N r) (T.1 r) t E L) (h : ∀ τ, SC Q (nx t L.2) L.2 τ → FPc σ τ → τ.1 w n = oI L.1 (-1) → (∀ b j, 33 ≤ b → b ≤ 37 → ¬ (b = w ∧ j = n) → τ.1 b j = σ.1 b j) → wp (K ()) τ P) : wp (bd (gI 33 4) (fun x3 => bd (gI 3 a) (fun x4 => bd (FX5_findName 1 (4 + r) x4 m) (fun x5 => bd (uI w 40 x3 x5) (fun (_ : Unit) => bd (FX5_advance 1) K))))) σ P := by
  obtain ⟨l1, l2, l3⟩ := lk_E vQ hE hL
  refine ws_gv en (ws_gv ea (wp_bd (c_findName (N := N r) hE hm hm2 (fun i hi => hV.1 r hr i hi) (fun i hi => hN r hr i hi) hS hL (fun i j hi hj he => (hV.2 r r hr hr i j hi hj he).2)) ?_))
  rintro x τ1 ⟨rfl, s1, f1⟩
  refine ws_u hn (by decide) (wp_bd (c_adv vQ (SC_u (by omega) s1)) ?_)
  rintro _ τ2 ⟨s2, f2⟩
  refine h τ2 ?_ (FPc_tr (FPc_t f1) (FPc_tr (FPc_u hw) (FPc_t f2))) ((f2.1 _ _ (by omega)).trans mm_at) (fun b j h1 h2 h3 => ?_)
  · unfold nx
    by_cases z : L.2 = 0
    · rw [if_pos z]; exact s2
    · rw [if_neg z]; exact SC_dd z s2
  · rw [f2.1 b j (by omega), ← f1.1 b j (by omega)]
    exact mm_ne h3
