/-! ===== the world, made ===== -/
def fulB (n : Nat) (τ : TT) : Bool := (List.range n).all (fun a => if (sh a).1 < 100 then (List.range (nfd (sh a).1)).all (fun j => !decide (fty (sh a).1 j = 2) || τ a j) else if (sh a).1 < 104 then true else (List.range (sh a).2).all (fun j => τ a j))
theorem arrV_cg {c : ClassId} {N : Nat} {f g : Nat → Value} (h : ∀ j, j < N → f j = g j) : arrV c N f = arrV c N g := by
  unfold arrV
  have : (fun j : Fin N => f j.val) = fun j => g j.val := funext fun j => h j.val j.isLt
  rw [this]
theorem ca_rr {K : KK} {σ : MM} {a m : Nat} : ∀ t, 4 ≤ t → ca K σ a t m = .inl (K.2.2.1 t, m, .inr (.inr (.inr (.inr (fun j => some (K.2.1 + rf a j))))))
  | 0, h => by omega
  | 1, h => by omega
  | 2, h => by omega
  | 3, h => by omega
  | t + 4, _ => rfl
theorem ful_at {n a : Nat} {τ : TT} (h : fulB n τ = true) (ha : a < n) : ((sh a).1 < 100 → ∀ j, j < nfd (sh a).1 → fty (sh a).1 j = 2 → τ a j = true) ∧ (104 ≤ (sh a).1 → ∀ j, j < (sh a).2 → τ a j = true) := by
  unfold fulB at h
  have h1 := List.all_eq_true.mp h a (List.mem_range.mpr ha)
  constructor
  · intro hc j hj hf
    rw [if_pos hc] at h1
    have h2 := List.all_eq_true.mp h1 j (List.mem_range.mpr hj)
    simpa [hf] using h2
  · intro hc j hj
    rw [if_neg (by omega), if_neg (by omega)] at h1
    exact List.all_eq_true.mp h1 j (List.mem_range.mpr hj)
theorem at_wl {K : KK} {n a : Nat} {σ : MM} {τ : TT} {H : Heap} (h : fulB n τ = true) (ha : a < n) : va_at K.1 cl0 (K.2.1 + a, cq K σ τ a) H ↔ va_at K.1 cl0 (K.2.1 + a, ce K σ a) H := by
  obtain ⟨f1, f2⟩ := ful_at h ha
  by_cases hc : (sh a).1 < 100
  · have e : cq K σ τ a = ce K σ a := by
      unfold cq ce
      rw [if_pos hc, if_pos hc]
      refine congrArg (fun x => Sum.inr ((sh a).1, x)) (List.map_congr_left (fun j hj => ?_))
      unfold fq
      rw [if_neg (fun q => by have := f1 hc j (List.mem_range.mp hj) q.1; rw [this] at q; cases q.2)]
    rw [e]
  · by_cases hd : (sh a).1 < 104
    · have e : cq K σ τ a = ce K σ a := by
        unfold cq ce
        rw [if_neg hc, if_neg hc, if_pos hd]
      rw [e]
    · have e1 : cq K σ τ a = .inl (K.2.2.1 ((sh a).1 - 100), (sh a).2, .inr (.inr (.inr (.inr (rq K τ a))))) := by
        unfold cq
        rw [if_neg hc, if_neg hd]
      have e2 : ce K σ a = .inl (K.2.2.1 ((sh a).1 - 100), (sh a).2, .inr (.inr (.inr (.inr (fun j => some (K.2.1 + rf a j)))))) := by
        unfold ce
        rw [if_neg hc, ca_rr _ (by omega)]
      rw [e1, e2]
      show H[K.2.1 + a]? = some (vp_cell _ _) ↔ H[K.2.1 + a]? = some (vp_cell _ _)
      rw [vp_cell_q, vp_cell_q, arrV_cg (g := fun j => va_rf (some (K.2.1 + rf a j))) (fun j hj => by unfold rq; rw [f2 (by omega) j hj]; rfl)]
theorem wq_wl {K : KK} {n : Nat} {σ : MM} {τ : TT} {H : Heap} (h : fulB n τ = true) : va_P K.1 cl0 (wq K n σ τ) H ↔ va_P K.1 cl0 (wl K n σ) H := by
  constructor
  · intro hP i q hq
    have hi : i < n := by have := (List.getElem?_eq_some_iff.mp hq).1; rwa [wl_len] at this
    rw [wl_at hi] at hq
    cases hq
    exact (at_wl h hi).mp (hP i _ (wq_at hi))
  · intro hP i q hq
    have hi : i < n := by have := (List.getElem?_eq_some_iff.mp hq).1; rwa [wq_len] at this
    rw [wq_at hi] at hq
    cases hq
    exact (at_wl h hi).mpr (hP i _ (wl_at hi))
def ZI (K : KK) (n k z : Nat) : ZZ := (k, z, fun _ below args s Q => MQ below (QC K n Q) args s k z (AA K))
section RNF
variable {l : Launch} {K : KK} {n0 d zc zs : Nat} {M : MI} {pc : Nat} {lv : List (Nat × Value)} {st : List Value} {k z : Nat} {σ σ' : MM} {τ : TT}
theorem rp_vretZ {n : Nat} {x : Unit} (hr : M.2.2.2.2 = none) (hd : decode M.2.2.1 pc = .ok (.return_, 1)) : RP l K n d M (ZI K n k z) pc lv [] enU (pu x) := by
  intro σ r σ' q p e R s m args below meth c C H locs ls hP hS hl
  cases q
  exact W.vret (hlocks := C.2.2.2.2.2.2.1) C.1 C.2.1 (C.2.2.1.trans hr) (fun t ht hW => ⟨⟨_, _, rfl, ⟨rfl, rfl⟩, by rw [ht]; exact hP⟩, hS.F ht⟩) hS.2.2 hd
theorem rn_rp {t : PP Unit} (hf : fulB (n0 + k) τ = true) (h270 : 270 ≤ n0 + k) (hz1 : k ≤ zc) (hz2 : z ≤ zs) (ht : t σ = some ((), σ')) (h : RP l K (n0 + k) d M (ZI K (n0 + k) k z) pc lv st enU t) : RN l K n0 d zc zs M (EI K (n0 + k) k z σ' τ) pc lv st k z σ τ := by
  intro p e R s m args below meth c C H locs ls hP hS hl T hT X
  obtain ⟨t2, a1, o, b1, b2, ⟨⟨v, σ2, c1, ⟨c2, c3⟩, c4⟩, c5⟩, c6⟩ := h σ () σ' ht p e R s m args below meth c ⟨C.1, C.2.1, C.2.2.1, C.2.2.2.1, C.2.2.2.2.1, C.2.2.2.2.2.1, C.2.2.2.2.2.2.1, C.ku, ⟨C.rm.1, C.rm.2.1, Nat.le_trans hz1 C.rm.2.2.1, Nat.le_trans hz2 C.rm.2.2.2⟩, h270⟩ H locs ls ((wq_wl hf).mp hP) hS hl T hT X
  subst c2
  subst c3
  exact ⟨t2, a1, o, b1, b2, ⟨⟨c1, (wq_wl hf).mpr c4⟩, c5⟩, c6⟩
end RNF
