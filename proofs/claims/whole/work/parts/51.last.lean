/-! ===== sets as bits; last ===== -/
def bcI (p1 : Int32) : Int32 :=
  let y1 := p1 - (((p1.toUInt32 >>> ((1 : Int32).toUInt32 &&& Int32.toUInt32 31)).toInt32) &&& (1431655765 : Int32))
  let y2 := (y1 &&& (858993459 : Int32)) + (((y1.toUInt32 >>> ((2 : Int32).toUInt32 &&& Int32.toUInt32 31)).toInt32) &&& (858993459 : Int32))
  let y3 := (y2 + ((y2.toUInt32 >>> ((4 : Int32).toUInt32 &&& Int32.toUInt32 31)).toInt32)) &&& (252645135 : Int32)
  let y4 := y3 + ((y3.toUInt32 >>> ((8 : Int32).toUInt32 &&& Int32.toUInt32 31)).toInt32)
  let y5 := y4 + ((y4.toUInt32 >>> ((16 : Int32).toUInt32 &&& Int32.toUInt32 31)).toInt32)
  y5 &&& (63 : Int32)
theorem bc_ev (p : Int32) (σ : MM) : FJ6_bitCount_0f7a4 p σ = some (bcI p, σ) := rfl
def nt0 (p : Int32) : Int32 := (p ^^^ (-1 : Int32)) &&& (p - (1 : Int32))
def nt1 (y : Int32) : Int32 × Int32 := if y ≤ (16 : Int32) then (y, 1) else ((y.toUInt32 >>> ((4 : Int32).toUInt32 &&& Int32.toUInt32 31)).toInt32, (1 : Int32) + (4 : Int32))
def nt2 (v : Int32 × Int32) : Int32 × Int32 := if v.1 ≤ (4 : Int32) then v else ((v.1.toUInt32 >>> ((2 : Int32).toUInt32 &&& Int32.toUInt32 31)).toInt32, v.2 + (2 : Int32))
def ntI (p : Int32) : Int32 := if 0 < nt0 p then (nt2 (nt1 (nt0 p))).2 + (((nt2 (nt1 (nt0 p))).1.toUInt32 >>> ((1 : Int32).toUInt32 &&& Int32.toUInt32 31)).toInt32) else nt0 p &&& (32 : Int32)
theorem nt_ev {p : Int32} (h1 : nt0 p ≤ 65536) (h2 : nt0 p ≤ 256) (σ : MM) : FJ6_numberOfTrailingZeros_0f7a4 p σ = some (ntI p, σ) := by
  unfold FJ6_numberOfTrailingZeros_0f7a4
  rw [lt_eq]
  show (if 0 < nt0 p then bd (if nt0 p ≤ (65536 : Int32) then _ else _) _ else pu (nt0 p &&& 32)) σ = _
  unfold ntI
  by_cases q : 0 < nt0 p
  · rw [if_pos q, if_pos q, if_pos h1]
    refine (ev_bd (show pu (nt0 p, (1 : Int32)) σ = some (_, σ) from rfl)).trans ?_
    rw [if_pos h2]
    refine (ev_bd (show pu (nt0 p, (1 : Int32)) σ = some (_, σ) from rfl)).trans ?_
    refine (ev_bd (x := nt1 (nt0 p)) (σ1 := σ) ?_).trans ?_
    · unfold nt1
      by_cases z : nt0 p ≤ 16
      · rw [if_pos z, if_pos z]; rfl
      · rw [if_neg z, if_neg z]; rfl
    refine (ev_bd (x := nt2 (nt1 (nt0 p))) (σ1 := σ) ?_).trans ?_
    · unfold nt2
      by_cases z : (nt1 (nt0 p)).1 ≤ 4
      · rw [if_pos z, if_pos z]; rfl
      · rw [if_neg z, if_neg z]; rfl
    rfl
  · rw [if_neg q, if_neg q]
    rfl
def sel (b0 b1 b2 b3 b4 b5 : Bool) (k : Nat) : Bool := if k = 0 then b0 else if k = 1 then b1 else if k = 2 then b2 else if k = 3 then b3 else if k = 4 then b4 else if k = 5 then b5 else false
/-- a set of at most n, as one of six -/
def cutB (p : Nat → Bool) (n : Nat) (k : Nat) : Bool := p k && decide (k < n)
def sel6 (p : Nat → Bool) : Nat → Bool := sel (p 0) (p 1) (p 2) (p 3) (p 4) (p 5)
theorem sel6_k (p : Nat → Bool) : ∀ k, k < 6 → p k = sel6 p k := by
  intro k hk
  rcases (show k = 0 ∨ k = 1 ∨ k = 2 ∨ k = 3 ∨ k = 4 ∨ k = 5 by omega) with rfl | rfl | rfl | rfl | rfl | rfl <;> rfl
theorem bt_sel (p : Nat → Bool) {n : Nat} (hn : n ≤ 6) : btF p n = btF (sel6 (cutB p n)) 6 := by
  rw [btF_cong (q := cutB p n) (fun k hk => by simp [cutB, hk])]
  rw [← btF_ext (p := cutB p n) (n := n) (m := 6) hn (fun k h1 h2 => by simp [cutB]; omega)]
  exact btF_cong (sel6_k _)
theorem hmF_ext {p : Nat → Bool} {n : Nat} : ∀ {m : Nat}, n ≤ m → (∀ k, n ≤ k → k < m → p k = false) → hmF p m = hmF p n
  | 0, h, _ => by
    have : n = 0 := by omega
    rw [this]
  | m + 1, h, hp => by
    by_cases q : n = m + 1
    · rw [q]
    · show (if p m = true then _ else hmF p m) = _
      rw [hp m (by omega) (by omega), if_neg (by decide), hmF_ext (n := n) (m := m) (by omega) (fun k h1 h2 => hp k h1 (by omega))]
theorem hm_sel (p : Nat → Bool) {n : Nat} (hn : n ≤ 6) : hmF p n = hmF (sel6 (cutB p n)) 6 := by
  rw [hmF_cong (q := cutB p n) (fun k hk => by simp [cutB, hk])]
  rw [← hmF_ext (p := cutB p n) (n := n) (m := 6) hn (fun k h1 h2 => by simp [cutB]; omega)]
  exact hmF_cong (sel6_k _)
theorem bc6 : ∀ b0 b1 b2 b3 b4 b5 : Bool, bcI (btF (sel b0 b1 b2 b3 b4 b5) 6) = hmF (sel b0 b1 b2 b3 b4 b5) 6 := by decide +kernel
theorem bc_bt (p : Nat → Bool) {n : Nat} (hn : n ≤ 6) : bcI (btF p n) = hmF p n := by
  rw [bt_sel p hn, hm_sel p hn]
  exact bc6 _ _ _ _ _ _
theorem nt6 : ∀ b0 b1 b2 b3 b4 b5 : Bool, nt0 (btF (sel b0 b1 b2 b3 b4 b5) 6) ≤ 65536 ∧ nt0 (btF (sel b0 b1 b2 b3 b4 b5) 6) ≤ 256 ∧ (if btF (sel b0 b1 b2 b3 b4 b5) 6 = 0 then -1 else ntI (btF (sel b0 b1 b2 b3 b4 b5) 6)) = fsF (sel b0 b1 b2 b3 b4 b5) 0 6 := by decide +kernel
theorem z6 : ∀ b0 b1 b2 b3 b4 b5 : Bool, btF (sel b0 b1 b2 b3 b4 b5) 6 = 0 → b0 = false ∧ b1 = false ∧ b2 = false ∧ b3 = false ∧ b4 = false ∧ b5 = false := by decide +kernel
theorem bt_0 {p : Nat → Bool} {n : Nat} (hn : n ≤ 6) (h : btF p n = 0) : ∀ k, k < n → p k = false := by
  rw [bt_sel p hn] at h
  obtain ⟨h0, h1, h2, h3, h4, h5⟩ := z6 _ _ _ _ _ _ h
  intro k hk
  have hc : cutB p n k = false := by
    rcases (show k = 0 ∨ k = 1 ∨ k = 2 ∨ k = 3 ∨ k = 4 ∨ k = 5 by omega) with rfl | rfl | rfl | rfl | rfl | rfl <;> assumption
  simpa [cutB, hk] using hc
theorem bt_n0 {p : Nat → Bool} {n : Nat} (h : ¬ btF p n = 0) : ∃ k, k < n ∧ p k = true := by
  apply Classical.byContradiction
  intro hn
  apply h
  apply btF_0
  intro k hk
  cases hp : p k with
  | false => rfl
  | true => exact absurd ⟨k, hk, hp⟩ hn
theorem fs_no {p : Nat → Bool} : ∀ {f i : Nat}, (∀ k, i ≤ k → k < i + f → p k = false) → fsF p i f = -1
  | 0, _, _ => rfl
  | f + 1, i, h => by
    show (if p i = true then _ else _) = _
    rw [h i (Nat.le_refl i) (by omega), if_neg (by decide)]
    exact fs_no (fun k h1 h2 => h k (by omega) (by omega))
theorem fs_at {p : Nat → Bool} : ∀ {f i m : Nat}, i ≤ m → m < i + f → p m = true → (∀ k, i ≤ k → k < m → p k = false) → fsF p i f = nI m
  | 0, i, m, h1, h2, _, _ => by omega
  | f + 1, i, m, h1, h2, h3, h4 => by
    show (if p i = true then _ else _) = _
    by_cases q : i = m
    · subst q
      rw [if_pos h3]
    · rw [h4 i (Nat.le_refl i) (by omega), if_neg (by decide)]
      exact fs_at (by omega) (by omega) h3 (fun k h5 h6 => h4 k (by omega) h6)
/-- the least that is so -/
theorem lst {p : Nat → Bool} : ∀ {n : Nat}, (∃ k, k < n ∧ p k = true) → ∃ m, m < n ∧ p m = true ∧ ∀ k, k < m → p k = false
  | 0, h => by obtain ⟨k, hk, -⟩ := h; omega
  | n + 1, h => by
    by_cases q : ∃ k, k < n ∧ p k = true
    · obtain ⟨m, h1, h2, h3⟩ := lst q
      exact ⟨m, by omega, h2, h3⟩
    · obtain ⟨k, hk, hp⟩ := h
      have e : k = n := by
        apply Classical.byContradiction
        intro z
        exact q ⟨k, by omega, hp⟩
      subst e
      refine ⟨k, by omega, hp, fun j hj => ?_⟩
      cases hb : p j with
      | false => rfl
      | true => exact absurd ⟨j, hj, hb⟩ q
theorem fs_cs (p : Nat → Bool) (N : Nat) : ((∀ j, j < N → p j = false) ∧ fsF p 0 N = -1) ∨ ∃ m, m < N ∧ p m = true ∧ (∀ j, j < m → p j = false) ∧ fsF p 0 N = nI m := by
  by_cases q : ∃ k, k < N ∧ p k = true
  · obtain ⟨m, h1, h2, h3⟩ := lst q
    exact Or.inr ⟨m, h1, h2, h3, fs_at (by omega) (by omega) h2 (fun k _ h => h3 k h)⟩
  · have : ∀ j, j < N → p j = false := fun j hj => by
      cases hb : p j with
      | false => rfl
      | true => exact absurd ⟨j, hj, hb⟩ q
    exact Or.inl ⟨this, fs_no (fun k _ h => this k (by omega))⟩
theorem fs_sel (p : Nat → Bool) {n : Nat} (hn : n ≤ 6) : fsF p 0 n = fsF (sel6 (cutB p n)) 0 6 := by
  rcases fs_cs p n with ⟨h1, h2⟩ | ⟨m, h1, h2, h3, h4⟩
  · rw [h2, fs_no]
    intro k _ hk
    rw [← sel6_k _ k (by omega)]
    by_cases q : k < n
    · simp [cutB, h1 k q]
    · simp [cutB, q]
  · rw [h4]
    refine (fs_at (by omega) (by omega) ?_ (fun k _ hk => ?_)).symm
    · rw [← sel6_k _ m (by omega)]; simp [cutB, h1, h2]
    · rw [← sel6_k _ k (by omega)]; simp [cutB, h3 k hk]
theorem nt_fs (p : Nat → Bool) {n : Nat} (hn : n ≤ 6) : (if btF p n = 0 then -1 else ntI (btF p n)) = fsF p 0 n := by
  rw [bt_sel p hn, fs_sel p hn]
  exact (nt6 _ _ _ _ _ _).2.2
theorem nt_bt (p : Nat → Bool) {n : Nat} (hn : n ≤ 6) (σ : MM) : FJ6_numberOfTrailingZeros_0f7a4 (btF p n) σ = some (ntI (btF p n), σ) := by
  rw [bt_sel p hn]
  exact nt_ev (nt6 _ _ _ _ _ _).1 (nt6 _ _ _ _ _ _).2.1 σ
theorem an6 : ∀ b0 b1 b2 b3 b4 b5 c0 c1 c2 c3 c4 c5 : Bool, btF (sel b0 b1 b2 b3 b4 b5) 6 &&& (btF (sel c0 c1 c2 c3 c4 c5) 6 ^^^ (-1 : Int32)) = btF (sel (b0 && !c0) (b1 && !c1) (b2 && !c2) (b3 && !c3) (b4 && !c4) (b5 && !c5)) 6 := by decide +kernel
theorem an_bt (p q : Nat → Bool) {n : Nat} (hn : n ≤ 6) : btF p n &&& (btF q n ^^^ (-1 : Int32)) = btF (fun k => p k && !q k) n := by
  rw [bt_sel p hn, bt_sel q hn, bt_sel (fun k => p k && !q k) hn]
  refine (an6 _ _ _ _ _ _ _ _ _ _ _ _).trans (btF_cong (fun k hk => ?_))
  rw [← sel6_k (cutB (fun k => p k && !q k) n) k hk]
  have e : ∀ j, (cutB p n j && !cutB q n j) = cutB (fun k => p k && !q k) n j := fun j => by
    unfold cutB
    by_cases z : j < n <;> simp [z]
  rcases (show k = 0 ∨ k = 1 ∨ k = 2 ∨ k = 3 ∨ k = 4 ∨ k = 5 by omega) with rfl | rfl | rfl | rfl | rfl | rfl <;> exact e _
