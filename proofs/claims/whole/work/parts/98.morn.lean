/-! ===== a morning read ===== -/
theorem c_deedOf {Q : TA} {t E : Nat} {W : Option Nat × Nat × Nat} {σ : MM} (hW : kw Q 8 t E W) : FX3_deedOf (if E = 0 then wrT Q (tp Q t) else none) σ = some (oI W.1 (-1), σ) := by
  unfold FX3_deedOf
  rcases hW with ⟨h, rfl⟩ | ⟨h, hw, rfl⟩ | ⟨j, hj, h, hw, rfl⟩
  · rw [if_neg h]; rfl
  · rw [if_pos h]
    have nw : ∀ (j : Nat) (hj : j < 4), ¬ wrT Q (tp Q t) = some (⟨8 + j, by omega⟩ : Fin 23) := fun j hj q => by
      have := wr_iff.mp q
      have h2 := hw j hj
      have this : wB Q (8 + j) t = true := this
      rw [h2] at this
      cases this
    rw [if_neg (show ¬ wrT Q (tp Q t) = some (8 : Fin 23) from nw 0 (by decide)), if_neg (show ¬ wrT Q (tp Q t) = some (9 : Fin 23) from nw 1 (by decide)), if_neg (show ¬ wrT Q (tp Q t) = some (10 : Fin 23) from nw 2 (by decide)), if_neg (show ¬ wrT Q (tp Q t) = some (11 : Fin 23) from nw 3 (by decide))]
    rfl
  · rw [if_pos h]
    have e : wrT Q (tp Q t) = some (⟨8 + j, by omega⟩ : Fin 23) := wr_iff.mpr hw
    rw [e]
    have : j = 0 ∨ j = 1 ∨ j = 2 ∨ j = 3 := by omega
    rcases this with rfl | rfl | rfl | rfl <;> rfl
