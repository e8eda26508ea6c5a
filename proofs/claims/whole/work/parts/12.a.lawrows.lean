/-! ===== the law's own judgement: its end is the claim's end; its script is read ===== -/
def XX (K : KK) (b L : Nat) (xs : Nat → Int32) (s : State) : Prop := va_X b L xs s s.heap ∧ b < s.heap.size ∧ s.heap.size ≤ K.2.1
def ZX (K : KK) (b L : Nat) (xs : Nat → Int32) (c z : Nat) : ZZ := (c, z, fun R below args s _ T => ¬ (XX K b L xs s ∧ R = room_1 ∧ args = #[Value.ref b]) ∨ lw_Z below args s T)
section RPLw
variable {ρ : Type} {l : Launch} {K : KK} {n d : Nat} {M : MI} {pc : Nat} {lv : List (Nat × Value)} {st : List Value} {en : ρ → Option Value}
theorem rp_sld {t : PP ρ} {b L c z : Nat} {xs : Nat → Int32} {i v : Int32} (hi : vp_in i L) (hv : xs i.toNatClampNeg = v) (hd : decode M.2.2.1 pc = .ok (.iaload, 1)) (k : RP l K n d M (ZX K b L xs c z) (pc + 1) lv (.int v :: st) en t) : RP l K n d M (ZX K b L xs c z) pc lv (.int i :: .ref b :: st) en t := by
  subst hv
  intro σ r σ' q p e R s m args below meth cd C H locs ls hP hS hl
  by_cases hX : XX K b L xs s
  · exact va_sld C.1 C.2.1 hX.1 hX.2.1 (fun q => absurd (Nat.lt_of_lt_of_le hX.2.1 hX.2.2) (Nat.not_lt.mpr q)) hS hi hd (k σ r σ' q p e R s m args below meth cd C H locs ls hP hS hl)
  · intro T hT X
    exact ⟨_, Steps.refl _, Or.inl (fun q => hX q.1)⟩
theorem rp_slen {t : PP ρ} {b L c z : Nat} {xs : Nat → Int32} (hd : decode M.2.2.1 pc = .ok (.arraylength, 1)) (k : RP l K n d M (ZX K b L xs c z) (pc + 1) lv (.int (Int32.ofNat L) :: st) en t) : RP l K n d M (ZX K b L xs c z) pc lv (.ref b :: st) en t := by
  intro σ r σ' q p e R s m args below meth cd C H locs ls hP hS hl
  by_cases hX : XX K b L xs s
  · exact va_slen C.1 C.2.1 hX.1 hX.2.1 (fun q => absurd (Nat.lt_of_lt_of_le hX.2.1 hX.2.2) (Nat.not_lt.mpr q)) hS hd (k σ r σ' q p e R s m args below meth cd C H locs ls hP hS hl)
  · intro T hT X
    exact ⟨_, Steps.refl _, Or.inl (fun q => hX q.1)⟩
theorem rp_lend {t : PP ρ} {b L c z : Nat} {xs : Nat → Int32} (hc : c ≤ 601024) (hz : z ≤ 7293033) (hb : M.2.2.1 = code) (hr : M.2.2.2.2 = ret) (hd : decode code pc = .ok (.ireturn, 1)) : RP l K n d M (ZX K b L xs c z) pc lv [.int 1] en t := by
  intro σ r σ' q p e R s m args below meth cd C H locs ls hP hS hl T hT X
  by_cases hX : XX K b L xs s ∧ R = room_1 ∧ args = #[Value.ref b]
  · obtain ⟨h1, h2, h3⟩ := hX
    subst h2
    subst h3
    obtain ⟨t2, a1, b1⟩ := va_forget (fun q hq => Nat.le_trans h1.2.2 (hS.2.2 q hq)) (W.widen hc hz (lw_ret C.1 (C.2.1.trans hb) (C.2.2.1.trans hr) C.2.2.2.2.2.2.1 hd)) T hT X
    exact ⟨t2, a1, Or.inr b1⟩
  · exact ⟨_, Steps.refl _, Or.inl hX⟩
end RPLw
