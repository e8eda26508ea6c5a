/-! ===== new int[4][5], in the world being made ===== -/
def t4 (τ : TT) (a : Nat) : TT := st2 (st2 (st2 (st2 τ a 0) a 1) a 2) a 3
abbrev uI0 (σ : MM) (a i : Nat) (x : Int32) : MM := (up2 σ.1 a i x, σ.2)
abbrev uL0 (σ : MM) (a i : Nat) (x : Int64) : MM := (σ.1, up2 σ.2.1 a i x, σ.2.2)
theorem Fr.t4 {n : Nat} {σ : MM} {τ : TT} (h : Fr n σ τ) : Fr (n + 5) σ (t4 τ n) := ((((h.mono (show n ≤ n + 5 by omega)).st (by omega)).st (by omega)).st (by omega)).st (by omega)
theorem cq_t4 {K : KK} {σ : MM} {τ : TT} {n b : Nat} (h : b ≠ n) : cq K σ (t4 τ n) b = cq K σ τ b := by
  unfold t4
  rw [cq_st h, cq_st h, cq_st h, cq_st h]
theorem rq_t4 {K : KK} {σ : MM} {τ : TT} {n : Nat} (hF : Fr n σ τ) (hr : ∀ j, j < 4 → rf n j = n + 1 + j) (j : Nat) : va_rf (rq K (t4 τ n) n j) = if j < 4 then .ref (K.2.1 + n + 1 + j) else .null := by
  unfold rq
  by_cases q : j < 4
  · have ht : t4 τ n n j = true := by
      unfold t4 st2
      rcases (show j = 0 ∨ j = 1 ∨ j = 2 ∨ j = 3 by omega) with rfl | rfl | rfl | rfl <;> simp
    rw [ht, if_pos rfl, if_pos q, hr j q]
    show Value.ref (K.2.1 + (n + 1 + j)) = Value.ref (K.2.1 + n + 1 + j)
    rw [← Nat.add_assoc, ← Nat.add_assoc]
  · have ht : t4 τ n n j = false := by
      unfold t4 st2
      have := (hF.1 n j (Nat.le_refl _)).1
      simp [this]
      omega
    rw [ht, if_neg (by decide), if_neg q]
    rfl
section RNM
variable {l : Launch} {K : KK} {n0 d zc zs : Nat} {M : MI} {E : EQ} {pc : Nat} {lv : List (Nat × Value)} {st : List Value} {k z : Nat} {σ : MM} {τ : TT}
theorem rn_mna {idx : Nat} (hl : Cond.classLink M.1 idx ("[" ++ (FieldType.array .int).toString) ∈ lg) (hw : Cond.arrayClass .int ∈ lg) (hsh : sh (n0 + k) = (100 + 6, 4)) (hs1 : ∀ j, j < 4 → sh (n0 + k + 1 + j) = (100 + 0, 5)) (hr : ∀ j, j < 4 → rf (n0 + k) j = n0 + k + 1 + j) (hF : Fr (n0 + k) σ τ) (hz1 : k + 5 ≤ zc) (hz2 : z + 24 ≤ zs) (hd : decode M.2.2.1 pc = .ok (.multianewarray idx 2, 4)) (kk : RN l K n0 d zc zs M E (pc + 4) lv (.ref (K.2.1 + (n0 + k)) :: st) (k + 5) (z + 24) σ (t4 τ (n0 + k))) : RN l K n0 d zc zs M E pc lv (.int (nI 5) :: .int (nI 4) :: st) k z σ τ := by
  intro p e R s m args below meth c Cx H locs ls hP hS hl2 T hT X
  have hs := X.heapSize
  rw [hT, Cx.sz] at hs
  have hs2 := wq_size Cx.sz hP hS
  have hsz : H.size = K.2.1 + (n0 + k) := by omega
  have hTs : T.heap.size = K.2.1 + (n0 + k) := by rw [hT]; exact hsz
  obtain ⟨vm₁, cA, comp, f1, f2, X', stp⟩ := zm_go X Cx.1 Cx.own (Cx.w hl) Cx.ao.2.2 (Cx.w hw) (g := F0 m pc ls (.int (nI 5) :: .int (nI 4) :: st)) rfl (by rw [Cx.2.1]; exact hd) (rest := st) rfl (Nat.le_trans hz1 Cx.rm.2.2.1) (Nat.le_trans hz2 Cx.rm.2.2.2)
  have e1 : cA = K.2.2.1 6 := Option.some.inj (f1.symm.trans (Cx.vk.2 6 _ rfl).2)
  have e2 : comp = K.2.2.1 0 := Option.some.inj (f2.symm.trans (Cx.vk.2 0 _ rfl).2)
  subst e1
  subst e2
  have hTh : (T.setVm vm₁).heap = H := hT
  obtain ⟨g1, g2, -, -⟩ := zmF_f (T.setVm vm₁) (K.2.2.1 6) (K.2.2.1 0) 4
  have hold : ∀ x : Nat, x < H.size → (zmF (T.setVm vm₁) (K.2.2.1 6) (K.2.2.1 0) 4).heap[x]? = H[x]? := fun x hx => by
    have := zmF_old (T.setVm vm₁) (K.2.2.1 6) (K.2.2.1 0) (a := x) (by rw [hTh]; exact hx) 4
    rwa [hTh] at this
  have hrow : ∀ j : Nat, j < 4 → (zmF (T.setVm vm₁) (K.2.2.1 6) (K.2.2.1 0) 4).heap[H.size + 1 + j]? = some (zmI (K.2.2.1 0)) := fun j hj => by
    have := zmF_in (T.setVm vm₁) (K.2.2.1 6) (K.2.2.1 0) 4 j hj
    rwa [hTh] at this
  rw [hTh] at g1 g2
  generalize zmF (T.setVm vm₁) (K.2.2.1 6) (K.2.2.1 0) 4 = F at X' stp g1 g2 hold hrow
  have hP' : va_P K.1 cl0 (wq K (n0 + (k + 5)) σ (t4 τ (n0 + k))) F.heap := by
    intro i q hq
    have hi : i < n0 + (k + 5) := by have := (List.getElem?_eq_some_iff.mp hq).1; rwa [wq_len] at this
    rw [wq_at hi] at hq
    cases hq
    rcases (show i < n0 + k ∨ i = n0 + k ∨ ∃ j, j < 4 ∧ i = n0 + k + 1 + j from by
      by_cases q1 : i < n0 + k
      · exact Or.inl q1
      · by_cases q2 : i = n0 + k
        · exact Or.inr (Or.inl q2)
        · exact Or.inr (Or.inr ⟨i - (n0 + k + 1), by omega, by omega⟩)) with q1 | rfl | ⟨j, hj, rfl⟩
    · rw [cq_t4 (by omega)]
      exact (hP i _ (wq_at q1)).kept (hold (K.2.1 + i) (by omega))
    · rw [cq_rr hsh (by decide)]
      show F.heap[K.2.1 + (n0 + k)]? = some (vp_cell _ _)
      rw [vp_cell_q, ← hsz, g2]
      refine congrArg some ?_
      unfold zmO
      refine congrArg (arrV _ 4) (funext fun j => ?_)
      rw [rq_t4 hF hr j, hsz]
    · rw [cq_ar (hs1 j hj) (by decide)]
      show F.heap[K.2.1 + (n0 + k + 1 + j)]? = some (vp_cell _ _)
      rw [show K.2.1 + (n0 + k + 1 + j) = H.size + 1 + j by omega, hrow j hj]
      refine congrArg some ?_
      rw [vp_cell_i]
      unfold zmI
      refine congrArg (arrV _ 5) (funext fun i => ?_)
      rw [(hF.1 (n0 + k + 1 + j) i (by omega)).2.1]
  have hS' : va_S (AA K) s.heap F.heap (locs ++ (List.range 4).map fun j => ⟨T.heap.size, j⟩) := by
    refine ⟨by have := hS.1; omega, fun q h1 h2 => ?_, fun q hq => ?_⟩
    · rw [hold q (Nat.lt_of_lt_of_le h1 hS.1)]
      exact hS.2.1 q h1 h2
    · rcases List.mem_append.mp hq with h | h
      · exact hS.2.2 q h
      · obtain ⟨j, -, rfl⟩ := List.mem_map.mp h
        show K.2.1 ≤ T.heap.size
        omega
  rw [hTs] at stp
  obtain ⟨t, a1, b1⟩ := kk p e R s m args below meth c Cx F.heap _ ls hP' hS' hl2 F rfl X'
  exact ⟨t, stp t a1, b1⟩
end RNM
