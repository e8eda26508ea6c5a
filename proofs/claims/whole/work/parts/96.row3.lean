/-! ===== a line of a morning: both ===== -/
theorem if_flip {α : Type} {c : Prop} [Decidable c] {a b : α} : (if c then a else b) = if ¬ c then b else a := by
  by_cases h : c
  · rw [if_pos h, if_neg (fun n => n h)]
  · rw [if_neg h, if_pos h]
def rwP (P : TO) (d c l k : Int32) : TO := (P.1 + 1, up2 (up2 (up2 (up2 P.2 0 P.1 d) 1 P.1 c) 2 P.1 l) 3 P.1 k)
theorem rwP_n {P : TO} {d c l k : Int32} : (rwP P d c l k).2 0 P.1 = d ∧ (rwP P d c l k).2 1 P.1 = c ∧ (rwP P d c l k).2 2 P.1 = l ∧ (rwP P d c l k).2 3 P.1 = k := by
  refine ⟨?_, ?_, ?_, ?_⟩
  · show up2 (up2 (up2 (up2 P.2 0 P.1 d) 1 P.1 c) 2 P.1 l) 3 P.1 k 0 P.1 = d
    rw [up2_ne (by omega), up2_ne (by omega), up2_ne (by omega), up2_at]
  · show up2 (up2 (up2 (up2 P.2 0 P.1 d) 1 P.1 c) 2 P.1 l) 3 P.1 k 1 P.1 = c
    rw [up2_ne (by omega), up2_ne (by omega), up2_at]
  · show up2 (up2 (up2 (up2 P.2 0 P.1 d) 1 P.1 c) 2 P.1 l) 3 P.1 k 2 P.1 = l
    rw [up2_ne (by omega), up2_at]
  · exact up2_at
theorem rwP_i {P : TO} {d c l k : Int32} {i : Nat} (h : i < P.1) (r : Nat) : (rwP P d c l k).2 r i = P.2 r i := by
  show up2 (up2 (up2 (up2 P.2 0 P.1 d) 1 P.1 c) 2 P.1 l) 3 P.1 k r i = P.2 r i
  rw [up2_ne (by omega), up2_ne (by omega), up2_ne (by omega), up2_ne (by omega)]
theorem DCp_rw {P : TO} {d c l k : Int32} {σ τ : MM} (hD : DCp P σ) (hp : ∀ b j, 34 ≤ b → b ≤ 37 → j < P.1 → τ.1 b j = σ.1 b j) (e4 : τ.1 33 4 = nI (P.1 + 1)) (e0 : τ.1 34 P.1 = d) (e1 : ¬ d = 3 → τ.1 35 P.1 = c) (e2 : d = 0 → τ.1 36 P.1 = l ∧ τ.1 37 P.1 = k) : DCp (rwP P d c l k) τ := by
  refine ⟨e4, fun i hi => ?_⟩
  have hi : i < P.1 + 1 := hi
  by_cases z : i = P.1
  · subst z
    obtain ⟨r0, r1, r2, r3⟩ := rwP_n (P := P) (d := d) (c := c) (l := l) (k := k)
    rw [r0, r1, r2, r3]
    exact ⟨e0, e1, e2⟩
  · rw [rwP_i (by omega), rwP_i (by omega), rwP_i (by omega), rwP_i (by omega), hp 34 i (by omega) (by omega) (by omega), hp 35 i (by omega) (by omega) (by omega), hp 36 i (by omega) (by omega) (by omega), hp 37 i (by omega) (by omega) (by omega)]
    exact hD.2 i (by omega)
theorem DMp_rw {P : TO} {d c l k : Int32} {σ τ : MM} (hD : DMp P σ) (hp : ∀ j, 165 ≤ j → j < 165 + 4 * P.1 → τ.1 262 j = σ.1 262 j) (e0 : τ.1 262 (165 + 4 * P.1) = d) (e1 : τ.1 262 (166 + 4 * P.1) = c) (e2 : τ.1 262 (167 + 4 * P.1) = l) (e3 : τ.1 262 (168 + 4 * P.1) = k) : DMp (rwP P d c l k) τ := by
  intro i hi
  have hi : i < P.1 + 1 := hi
  by_cases z : i = P.1
  · subst z
    obtain ⟨r0, r1, r2, r3⟩ := rwP_n (P := P) (d := d) (c := c) (l := l) (k := k)
    rw [r0, r1, r2, r3]
    exact ⟨e0, e1, e2, e3⟩
  · rw [rwP_i (by omega), rwP_i (by omega), rwP_i (by omega), rwP_i (by omega), hp _ (by omega) (by omega), hp _ (by omega) (by omega), hp _ (by omega) (by omega), hp _ (by omega) (by omega)]
    exact hD i (by omega)
theorem VPl_rw {T : TW} {P : TO} {d : Nat} {c l k : Int32} (hV : VPl T P) (hn : P.1 < 40) (hd : d < 4) (hc : ¬ d = 3 → ∃ i, i < T.1 2 ∧ c = nI i) (hl : d = 0 → (∃ i, i < T.1 0 ∧ l = nI i) ∧ ∃ q, 1 ≤ q ∧ q ≤ 3 ∧ k = nI q) : VPl T (rwP P (nI d) c l k) := by
  refine ⟨by show P.1 + 1 ≤ 40; omega, fun i hi => ?_⟩
  have hi : i < P.1 + 1 := hi
  by_cases z : i = P.1
  · subst z
    obtain ⟨r0, r1, r2, r3⟩ := rwP_n (P := P) (d := nI d) (c := c) (l := l) (k := k)
    rw [r0, r1, r2, r3]
    exact ⟨⟨d, hd, rfl⟩, fun h => hc (fun q => h (by rw [q]; rfl)), fun h => hl ((nI_eq (b := 0) (by omega) (by decide)).mp h)⟩
  · rw [rwP_i (by omega), rwP_i (by omega), rwP_i (by omega), rwP_i (by omega)]
    exact hV.2 i (by omega)
