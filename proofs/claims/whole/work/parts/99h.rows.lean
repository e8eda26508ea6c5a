/-! ===== wishes: rows of lines (which cloth goes where; 5: nowhere), as such ===== -/
def zsm (f : Nat → Nat) : Nat → Nat
  | 0 => 0
  | n + 1 => zsm f n + f n
theorem zsm_cong {f g : Nat → Nat} : ∀ {n : Nat}, (∀ k, k < n → f k = g k) → zsm f n = zsm g n
  | 0, _ => rfl
  | n + 1, h => by
    show zsm f n + f n = zsm g n + g n
    rw [zsm_cong (fun k hk => h k (by omega)), h n (by omega)]
theorem zsm_le {f g : Nat → Nat} : ∀ {n : Nat}, (∀ k, k < n → f k ≤ g k) → zsm f n ≤ zsm g n
  | 0, _ => Nat.le_refl _
  | n + 1, h => by
    have h1 := zsm_le (n := n) (fun k hk => h k (by omega))
    have h2 := h n (by omega)
    show zsm f n + f n ≤ zsm g n + g n
    omega
theorem zsm_mono {f : Nat → Nat} {m : Nat} : ∀ {n : Nat}, m ≤ n → zsm f m ≤ zsm f n
  | 0, h => by have : m = 0 := by omega
               subst this; exact Nat.le_refl _
  | n + 1, h => by
    by_cases q : m = n + 1
    · subst q; exact Nat.le_refl _
    · have := zsm_mono (f := f) (m := m) (n := n) (by omega)
      show zsm f m ≤ zsm f n + f n
      omega
theorem zsm_ud {f g : Nat → Nat} {i : Nat} : ∀ {n : Nat}, (∀ k, k < n → k ≠ i → f k = g k) → i < n → zsm f n + g i = zsm g n + f i
  | 0, _, h => by omega
  | n + 1, h, hi => by
    show zsm f n + f n + g i = zsm g n + g n + f i
    by_cases q : i = n
    · subst q
      rw [zsm_cong (fun k hk => h k (by omega) (by omega))]
      omega
    · have h1 := zsm_ud (n := n) (fun k hk hk2 => h k (by omega) hk2) (by omega)
      have h2 := h n (by omega) (by omega)
      omega
def ud (g : Nat → Nat) (i v : Nat) : Nat → Nat := fun k => if k = i then v else g k
/-- two places changed for each other -/
theorem zsm_sw {f g : Nat → Nat} {i j n : Nat} (hij : i ≠ j) (hi : i < n) (hj : j < n) (h : ∀ k, k < n → k ≠ i → k ≠ j → f k = g k) (h1 : f i = g j) (h2 : f j = g i) : zsm f n = zsm g n := by
  have e1 := zsm_ud (f := f) (g := fun k => if k = i then g i else f k) (i := i) (n := n) (fun k _ q => by simp [q]) hi
  have e2 := zsm_ud (f := fun k => if k = i then g i else f k) (g := g) (i := j) (n := n) (fun k hk q => by
    by_cases q2 : k = i
    · simp [q2]
    · simp only [q2, if_false]; exact h k hk q2 q) hj
  simp only [if_true, if_neg (Ne.symm hij)] at e1 e2
  omega
theorem zsm_1 {f : Nat → Nat} (h : ∀ k, f k ≤ 1) : ∀ {n : Nat}, zsm f n ≤ n
  | 0 => Nat.le_refl _
  | n + 1 => by
    have h1 := zsm_1 h (n := n)
    have h2 := h n
    show zsm f n + f n ≤ n + 1
    omega
/-- how many lines, places, cloths; free pegs; which lie, are wet, of what kind; lines above; what hangs; what is wanted (4: nothing, 5: anything) -/
abbrev RQ : Type := (Nat × Nat × Nat) × (Nat → Int) × (Nat → Bool) × (Nat → Bool) × (Nat → Nat) × (Nat → Nat → Bool) × (Nat → Nat → Nat) × (Nat → Nat)
def qL (P : RQ) : Nat := P.1.1
def qP (P : RQ) : Nat := P.1.2.1
def qC (P : RQ) : Nat := P.1.2.2
def qF (P : RQ) : Nat → Int := P.2.1
def qy (P : RQ) : Nat → Bool := P.2.2.1
def qw (P : RQ) : Nat → Bool := P.2.2.2.1
def qk (P : RQ) : Nat → Nat := P.2.2.2.2.1
def qa (P : RQ) : Nat → Nat → Bool := P.2.2.2.2.2.1
def qB (P : RQ) : Nat → Nat → Nat := P.2.2.2.2.2.2.1
def qW (P : RQ) : Nat → Nat := P.2.2.2.2.2.2.2
def hu (P : RQ) (g : Nat → Nat) (k : Nat) : Nat := if g k < qL P then 1 else 0
def ct (g : Nat → Nat) (l n : Nat) : Nat := zsm (fun k => if g k = l then 1 else 0) n
def sz (P : RQ) (g : Nat → Nat) (n : Nat) : Nat := zsm (hu P g) n
def ad (P : RQ) (g : Nat → Nat) (p j k : Nat) : Nat := if g k < qL P ∧ qw P k = true ∧ qk P k = j ∧ qa P p (g k) = true then 1 else 0
def nN (P : RQ) (g : Nat → Nat) (p n j : Nat) : Nat := qB P p j + zsm (ad P g p j) n
def Wins (N : Nat → Nat) (w : Nat) : Prop := 0 < N w ∧ ∀ j, j < 4 → j ≠ w → N j < N w ∨ (N j = N w ∧ (w + 2) % 4 < (j + 2) % 4)
def Meet (N : Nat → Nat) (w : Nat) : Prop := w = 5 ∨ (w = 4 ∧ ∀ j, j < 4 → N j = 0) ∨ (w < 4 ∧ Wins N w)
def Mts (P : RQ) (g : Nat → Nat) (n : Nat) : Prop := ∀ p, p < qP P → Meet (nN P g p n) (qW P p)
def Feas (P : RQ) (g : Nat → Nat) : Prop := ∀ k, k < qC P → g k < qL P → qy P k = true ∧ (ct g (g k) (qC P) : Int) ≤ qF P (g k)
def Row (P : RQ) (g : Nat → Nat) : Prop := ∀ k, k < qC P → g k < qL P ∨ g k = 5
def Sol (P : RQ) (g : Nat → Nat) : Prop := Row P g ∧ Feas P g ∧ Mts P g (qC P)
def lx (n : Nat) (g h : Nat → Nat) : Prop := ∃ k, k < n ∧ (∀ i, i < k → g i = h i) ∧ g k < h k
def lxe (n : Nat) (g h : Nat → Nat) : Prop := (∀ k, k < n → g k = h k) ∨ lx n g h
def Best (P : RQ) (g : Nat → Nat) : Prop := Sol P g ∧ ∀ h, Sol P h → sz P g (qC P) < sz P h (qC P) ∨ (sz P g (qC P) = sz P h (qC P) ∧ lxe (qC P) g h)
def Okq (P : RQ) : Prop := qL P ≤ 5 ∧ qP P ≤ 4 ∧ qC P ≤ 6 ∧ ∀ k, k < qC P → qk P k < 4
theorem Wins_mono {N M : Nat → Nat} {w : Nat} (h : Wins N w) (hw : N w ≤ M w) (ho : ∀ j, j < 4 → j ≠ w → M j ≤ N j) : Wins M w := by
  refine ⟨by have := h.1; omega, fun j hj hn => ?_⟩
  have h1 := h.2 j hj hn
  have h2 := ho j hj hn
  omega
theorem lx_as {n : Nat} {g h : Nat → Nat} (h1 : lx n g h) (h2 : lx n h g) : False := by
  obtain ⟨a, a1, a2, a3⟩ := h1
  obtain ⟨b, b1, b2, b3⟩ := h2
  rcases Nat.lt_trichotomy a b with q | q | q
  · have := b2 a q; omega
  · subst q; omega
  · have := a2 b q; omega
theorem lx_ne {n : Nat} {g h : Nat → Nat} (h1 : lx n g h) (h2 : ∀ k, k < n → g k = h k) : False := by
  obtain ⟨a, a1, a2, a3⟩ := h1
  have := h2 a a1
  omega
theorem lxe_as {n : Nat} {g h : Nat → Nat} (h1 : lxe n g h) (h2 : lxe n h g) : ∀ k, k < n → g k = h k := by
  rcases h1 with q | q
  · exact q
  · rcases h2 with r | r
    · exact fun k hk => (r k hk).symm
    · exact (lx_as q r).elim
theorem Best_un {P : RQ} {g h : Nat → Nat} (hg : Best P g) (hh : Best P h) : sz P g (qC P) = sz P h (qC P) ∧ ∀ k, k < qC P → g k = h k := by
  have h1 := hg.2 h hh.1
  have h2 := hh.2 g hg.1
  rcases h1 with q | ⟨q, q2⟩
  · rcases h2 with r | ⟨r, r2⟩ <;> omega
  · rcases h2 with r | ⟨r, r2⟩
    · omega
    · exact ⟨q, lxe_as q2 r2⟩
/-- how a row without one of its cloths counts -/
theorem ct_le {f g : Nat → Nat} {l n : Nat} (h : ∀ k, k < n → f k = l → g k = l) : ct f l n ≤ ct g l n := zsm_le (fun k hk => by
  by_cases q : f k = l
  · simp [q, h k hk q]
  · simp [q])
theorem rm_sol {P : RQ} {g : Nat → Nat} {k : Nat} (hL : qL P ≤ 5) (hS : Sol P g) (hk : k < qC P) (hg : g k < qL P) (hM : Mts P (ud g k 5) (qC P)) : Sol P (ud g k 5) ∧ sz P (ud g k 5) (qC P) < sz P g (qC P) := by
  obtain ⟨h1, h2, h3⟩ := hS
  refine ⟨⟨fun i hi => ?_, fun i hi q => ?_, hM⟩, ?_⟩
  · unfold ud
    by_cases q : i = k
    · simp [q]
    · simp only [q, if_false]; exact h1 i hi
  · have hne : i ≠ k := fun e => by subst e; simp [ud] at q; omega
    have he : ud g k 5 i = g i := by simp [ud, hne]
    rw [he] at q ⊢
    have := h2 i hi q
    refine ⟨this.1, Int.le_trans (Int.ofNat_le.mpr (ct_le (fun j hj e => ?_))) this.2⟩
    unfold ud at e
    by_cases q2 : j = k
    · simp [q2] at e; omega
    · simpa [q2] using e
  · have := zsm_ud (f := hu P (ud g k 5)) (g := hu P g) (i := k) (n := qC P) (fun j _ q => by simp [hu, ud, q]) hk
    have e1 : hu P g k = 1 := by simp [hu, hg]
    have e2 : hu P (ud g k 5) k = 0 := by simp [hu, ud]; omega
    unfold sz
    omega
/-- what the class asks of a row -/
def usf (P : RQ) (j l : Nat) : Prop := ∃ p, p < qP P ∧ qW P p = j ∧ qa P p l = true
def fd (P : RQ) (g : Nat → Nat) (k : Nat) : Nat → Nat
  | 0 => 0
  | i + 1 => if qk P i = qk P k ∧ qw P i = true then (if g i < qL P then g i else if qy P i = true then 5 else fd P g k i) else fd P g k i
def fL (P : RQ) (g : Nat → Nat) (k : Nat) : Nat := if qy P k = true ∧ qw P k = true then fd P g k k else 5
theorem fd_is {P : RQ} {g : Nat → Nat} {k : Nat} : ∀ n, fd P g k n = 0 ∨ ∃ i, i < n ∧ qk P i = qk P k ∧ qw P i = true ∧ ((g i < qL P ∧ fd P g k n = g i) ∨ (¬ g i < qL P ∧ qy P i = true))
  | 0 => Or.inl rfl
  | n + 1 => by
    have ih := fd_is (P := P) (g := g) (k := k) n
    have ih2 : fd P g k (n + 1) = fd P g k n → (fd P g k (n + 1) = 0 ∨ ∃ i, i < n + 1 ∧ qk P i = qk P k ∧ qw P i = true ∧ ((g i < qL P ∧ fd P g k (n + 1) = g i) ∨ (¬ g i < qL P ∧ qy P i = true))) := fun e => by
      rw [e]
      rcases ih with q | ⟨i, hi, q⟩
      · exact Or.inl q
      · exact Or.inr ⟨i, by omega, q⟩
    by_cases q1 : qk P n = qk P k ∧ qw P n = true
    · by_cases q2 : g n < qL P
      · exact Or.inr ⟨n, by omega, q1.1, q1.2, Or.inl ⟨q2, by simp [fd, q1, q2]⟩⟩
      · by_cases q3 : qy P n = true
        · exact Or.inr ⟨n, by omega, q1.1, q1.2, Or.inr ⟨q2, q3⟩⟩
        · exact ih2 (by simp [fd, q1, q2, q3])
    · exact ih2 (by simp only [fd, if_neg q1])
theorem fd_cong {P : RQ} {g h : Nat → Nat} {k : Nat} : ∀ {n : Nat}, (∀ i, i < n → g i = h i) → fd P g k n = fd P h k n
  | 0, _ => rfl
  | n + 1, e => by
    have ih := fd_cong (P := P) (k := k) (n := n) (fun i hi => e i (by omega))
    simp only [fd, ih, e n (by omega)]
theorem fL_cong {P : RQ} {g h : Nat → Nat} {k : Nat} (e : ∀ i, i < k → g i = h i) : fL P g k = fL P h k := by
  unfold fL
  rw [fd_cong e]
/-- the two of them changed for each other -/
theorem sw_sol {P : RQ} {g : Nat → Nat} {i k : Nat} (hS : Sol P g) (hik : i < k) (hk : k < qC P) (hg : g k < qL P) (hgi : g k < g i) (hy : qy P i = true) (hwi : qw P i = true) (hwk : qw P k = true) (hkd : qk P i = qk P k) : ∃ h, Sol P h ∧ sz P h (qC P) = sz P g (qC P) ∧ lx (qC P) h g := by
  obtain ⟨h1, h2, h3⟩ := hS
  have hi : i < qC P := by omega
  let h : Nat → Nat := fun x => if x = i then g k else if x = k then g i else g x
  have ei : h i = g k := by simp [h]
  have ek : h k = g i := by simp [h]; omega
  have eo : ∀ x, x ≠ i → x ≠ k → h x = g x := fun x a b => by simp [h, a, b]
  have hct : ∀ l, ct h l (qC P) = ct g l (qC P) := fun l => zsm_sw (i := i) (j := k) (by omega) hi hk (fun x _ a b => by simp [eo x a b]) (by simp [ei]) (by simp [ek])
  have hsz : sz P h (qC P) = sz P g (qC P) := zsm_sw (i := i) (j := k) (by omega) hi hk (fun x _ a b => by simp [hu, eo x a b]) (by simp [hu, ei]) (by simp [hu, ek])
  have hN : ∀ p, nN P h p (qC P) = nN P g p (qC P) := fun p => by
    funext j
    unfold nN
    rw [zsm_sw (f := ad P h p j) (g := ad P g p j) (i := i) (j := k) (by omega) hi hk (fun x _ a b => by simp [ad, eo x a b]) (by simp [ad, ei, hwi, hwk, hkd]) (by simp [ad, ek, hwi, hwk, hkd])]
  refine ⟨h, ⟨fun x hx => ?_, fun x hx q => ?_, fun p hp => by rw [hN]; exact h3 p hp⟩, hsz, ⟨i, hi, fun x hx => eo x (by omega) (by omega), by rw [ei]; exact hgi⟩⟩
  · by_cases a : x = i
    · subst a; rw [ei]; exact h1 k hk
    · by_cases b : x = k
      · subst b; rw [ek]; exact h1 i hi
      · rw [eo x a b]; exact h1 x hx
  · rw [hct]
    by_cases a : x = i
    · subst a; rw [ei]; exact ⟨hy, (h2 k hk hg).2⟩
    · by_cases b : x = k
      · subst b; rw [ek] at q ⊢; exact ⟨(h2 x hx hg).1, (h2 i hi q).2⟩
      · rw [eo x a b] at q ⊢; exact h2 x hx q
theorem best_good {P : RQ} {g : Nat → Nat} (hO : Okq P) (hB : Best P g) {k : Nat} (hk : k < qC P) (hg : g k < qL P) : usf P (qk P k) (g k) ∧ fL P g k ≤ g k := by
  obtain ⟨hL, -, -, hkd⟩ := hO
  have hS := hB.1
  have no : ¬ Mts P (ud g k 5) (qC P) := fun hM => by
    obtain ⟨r1, r2⟩ := rm_sol hL hS hk hg hM
    have := hB.2 _ r1
    omega
  have had : ∀ p j x, x ≠ k → ad P (ud g k 5) p j x = ad P g p j x := fun p j x q => by simp [ad, ud, q]
  have had0 : ∀ p j, ad P (ud g k 5) p j k = 0 := fun p j => by simp [ad, ud]; omega
  have hsm : ∀ p j, nN P (ud g k 5) p (qC P) j + ad P g p j k = nN P g p (qC P) j := fun p j => by
    have := zsm_ud (f := ad P (ud g k 5) p j) (g := ad P g p j) (i := k) (n := qC P) (fun x _ q => had p j x q) hk
    rw [had0] at this
    unfold nN
    omega
  have hwet : qw P k = true := by
    by_cases q : qw P k = true
    · exact q
    · refine (no (fun p hp => ?_)).elim
      have e : nN P (ud g k 5) p (qC P) = nN P g p (qC P) := by
        funext j
        have := hsm p j
        have e0 : ad P g p j k = 0 := by simp [ad, q]
        omega
      rw [e]
      exact hS.2.2 p hp
  refine ⟨?_, ?_⟩
  · refine Classical.byContradiction fun nu => no (fun p hp => ?_)
    have hm := hS.2.2 p hp
    by_cases qa0 : qa P p (g k) = true
    · have ekk : ad P g p (qk P k) k = 1 := by simp [ad, hg, hwet, qa0]
      have eko : ∀ j, j ≠ qk P k → ad P g p j k = 0 := fun j hj => by simp [ad, Ne.symm hj]
      rcases hm with q | ⟨q1, q2⟩ | ⟨q1, q2⟩
      · exact Or.inl q
      · have := q2 _ (hkd k hk)
        have := hsm p (qk P k)
        omega
      · have hne : qW P p ≠ qk P k := fun e => nu ⟨p, hp, e, qa0⟩
        refine Or.inr (Or.inr ⟨q1, Wins_mono q2 ?_ (fun j _ _ => ?_)⟩)
        · have := hsm p (qW P p)
          have := eko _ hne
          omega
        · have := hsm p j
          omega
    · have e : nN P (ud g k 5) p (qC P) = nN P g p (qC P) := by
        funext j
        have := hsm p j
        have e0 : ad P g p j k = 0 := by simp [ad, qa0]
        omega
      rw [e]
      exact hm
  · have hy := (hS.2.1 k hk hg).1
    unfold fL
    rw [if_pos ⟨hy, hwet⟩]
    have nosw : ∀ i, i < k → qk P i = qk P k → qw P i = true → qy P i = true → ¬ g k < g i := fun i hi e1 e2 e3 e4 => by
      obtain ⟨h, r1, r2, r3⟩ := sw_sol hS hi hk hg e4 e3 e2 hwet e1
      rcases hB.2 h r1 with q | ⟨q1, q2⟩
      · omega
      · rcases q2 with q | q
        · exact lx_ne r3 (fun x hx => (q x hx).symm)
        · exact lx_as q r3
    rcases fd_is (P := P) (g := g) (k := k) k with q | ⟨i, hi, e1, e2, q⟩
    · omega
    · rcases q with ⟨q1, q2⟩ | ⟨q1, q2⟩
      · have := nosw i hi e1 e2 (hS.2.1 i (by omega) q1).1
        omega
      · exact absurd (show g k < g i by omega) (nosw i hi e1 e2 q2)
/-- free pegs, one by one -/
theorem ct_s {g : Nat → Nat} {l n : Nat} : ct g l (n + 1) = ct g l n + (if g n = l then 1 else 0) := rfl
theorem feas_of {P : RQ} {g : Nat → Nat} (h : ∀ k, k < qC P → g k < qL P → (ct g (g k) k : Int) < qF P (g k)) : ∀ k, k < qC P → g k < qL P → (ct g (g k) (qC P) : Int) ≤ qF P (g k) := by
  have key : ∀ n, n ≤ qC P → ∀ k, k < n → g k < qL P → (ct g (g k) n : Int) ≤ qF P (g k) := by
    intro n
    induction n with
    | zero => intro _ k hk; omega
    | succ n ih =>
      intro hn k hk hg
      rw [ct_s]
      by_cases q : g n = g k
      · have := h n (by omega) (by omega)
        rw [q] at this
        simp only [q, if_true]
        omega
      · have := ih (by omega) k (by have : k ≠ n := fun e => q (by rw [e]); omega) hg
        simp only [q, if_false]
        omega
  exact key _ (Nat.le_refl _)
theorem feas_to {P : RQ} {g : Nat → Nat} {k : Nat} (hk : k < qC P) (h : (ct g (g k) (qC P) : Int) ≤ qF P (g k)) : (ct g (g k) k : Int) < qF P (g k) := by
  have h1 : ct g (g k) (k + 1) ≤ ct g (g k) (qC P) := zsm_mono (by omega)
  rw [ct_s] at h1
  simp only [if_true] at h1
  omega
theorem ct_cong {g h : Nat → Nat} {l n : Nat} (e : ∀ i, i < n → g i = h i) : ct g l n = ct h l n := zsm_cong (fun k hk => by rw [e k hk])
theorem sz_cong {P : RQ} {g h : Nat → Nat} {n : Nat} (e : ∀ i, i < n → g i = h i) : sz P g n = sz P h n := zsm_cong (fun k hk => by unfold hu; rw [e k hk])
theorem nN_cong {P : RQ} {g h : Nat → Nat} {p n j : Nat} (e : ∀ i, i < n → g i = h i) : nN P g p n j = nN P h p n j := by
  unfold nN
  rw [zsm_cong (f := ad P g p j) (g := ad P h p j) (fun k hk => by unfold ad; rw [e k hk])]
/-- the class's rows from a cloth on, with so many more -/
def gE (P : RQ) (h : Nat → Nat) (k : Nat) : Prop := h k = 5 ∨ (h k < qL P ∧ usf P (qk P k) (h k) ∧ fL P h k ≤ h k ∧ (ct h (h k) k : Int) < qF P (h k))
def EE (P : RQ) (g : Nat → Nat) (c m : Nat) (h : Nat → Nat) : Prop := (∀ i, i < c → h i = g i) ∧ (∀ k, c ≤ k → k < qC P → gE P h k) ∧ sz P h (qC P) = sz P h c + m ∧ Mts P h (qC P)
/-- the model's -/
def gF (P : RQ) (h : Nat → Nat) (k : Nat) : Prop := h k = 5 ∨ (h k < qL P ∧ qy P k = true ∧ (ct h (h k) k : Int) < qF P (h k))
def FF (P : RQ) (g : Nat → Nat) (c : Nat) (h : Nat → Nat) : Prop := (∀ i, i < c → h i = g i) ∧ (∀ k, c ≤ k → k < qC P → gF P h k) ∧ Mts P h (qC P)
theorem FF_sol {P : RQ} {g h : Nat → Nat} (hL : qL P ≤ 5) : FF P g 0 h ↔ Sol P h := by
  constructor
  · intro ⟨_, h2, h3⟩
    refine ⟨fun k hk => ?_, fun k hk q => ?_, h3⟩
    · rcases h2 k (by omega) hk with r | r
      · exact Or.inr r
      · exact Or.inl r.1
    · refine ⟨?_, feas_of (fun i hi q2 => ?_) k hk q⟩
      · rcases h2 k (by omega) hk with r | r
        · omega
        · exact r.2.1
      · rcases h2 i (by omega) hi with r | r
        · omega
        · exact r.2.2
  · intro ⟨h1, h2, h3⟩
    refine ⟨fun i hi => by omega, fun k _ hk => ?_, h3⟩
    rcases h1 k hk with q | q
    · exact Or.inr ⟨q, (h2 k hk q).1, feas_to hk (h2 k hk q).2⟩
    · exact Or.inl q
theorem EE_FF {P : RQ} {g h : Nat → Nat} {m : Nat} (hL : qL P ≤ 5) (hE : EE P g 0 m h) : Sol P h ∧ sz P h (qC P) = m := by
  obtain ⟨h1, h2, h3, h4⟩ := hE
  refine ⟨(FF_sol (g := g) hL).mp ⟨h1, fun k hk1 hk2 => ?_, h4⟩, by rw [h3]; show 0 + m = m; omega⟩
  rcases h2 k hk1 hk2 with q | ⟨q1, q2, q3, q4⟩
  · exact Or.inl q
  · refine Or.inr ⟨q1, ?_, q4⟩
    unfold fL at q3
    by_cases r : qy P k = true ∧ qw P k = true
    · exact r.1
    · rw [if_neg r] at q3; omega
theorem best_EE {P : RQ} {g h : Nat → Nat} (hO : Okq P) (hB : Best P h) : EE P g 0 (sz P h (qC P)) h := by
  refine ⟨fun i hi => by omega, fun k _ hk => ?_, by show _ = 0 + _; omega, hB.1.2.2⟩
  rcases hB.1.1 k hk with q | q
  · have := best_good hO hB hk q
    exact Or.inr ⟨q, this.1, this.2, feas_to hk (hB.1.2.1 k hk q).2⟩
  · exact Or.inl q
