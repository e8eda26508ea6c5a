/-! ===== wishes: skies by rows ===== -/
def hN (p : Nat → Bool) (n : Nat) : Nat := zsm (fun k => if p k = true then 1 else 0) n
theorem hmF_N (p : Nat → Bool) : ∀ n, hmF p n = nI (hN p n)
  | 0 => rfl
  | n + 1 => by
    show (if p n = true then hmF p n + 1 else hmF p n) = nI (hN p n + (if p n = true then 1 else 0))
    rw [hmF_N p n]
    by_cases q : p n = true
    · rw [if_pos q, if_pos q]; exact nI_1 _
    · rw [if_neg q, if_neg q]; rfl
theorem hN_le (p : Nat → Bool) (n : Nat) : hN p n ≤ n := zsm_1 (fun k => by split <;> omega)
theorem zsm_add {f g : Nat → Nat} : ∀ n, zsm (fun k => f k + g k) n = zsm f n + zsm g n
  | 0 => rfl
  | n + 1 => by
    show zsm (fun k => f k + g k) n + (f n + g n) = zsm f n + f n + (zsm g n + g n)
    rw [zsm_add n]; omega
theorem zsm_cut {f : Nat → Nat} {c : Nat} : ∀ {n : Nat}, c ≤ n → zsm (fun k => if k < c then f k else 0) n = zsm f c
  | 0, h => by have : c = 0 := by omega
               subst this; rfl
  | n + 1, h => by
    by_cases q : c = n + 1
    · subst q
      exact zsm_cong (fun k hk => by simp [hk])
    · show zsm (fun k => if k < c then f k else 0) n + (if n < c then f n else 0) = _
      rw [zsm_cut (by omega), if_neg (by omega)]
      rfl
theorem nm1 : ∀ l, l < 5 → ¬ nI l = -1 := by decide +kernel
def eI (v : Nat) : Int32 := if v < 5 then nI v else -1
def skg (S : SK) (g : Nat → Nat) (c : Nat) : SK := fun r k => if k < c ∧ g k < 5 then (if r = 1 then nI (g k) else if r = 2 then 1 else S r k) else S r k
def skA (T : TW) (U V : SK) : Prop := ∀ k, k < T.1 2 → U 0 k = V 0 k ∧ U 1 k = V 1 k ∧ (¬ V 1 k = -1 → U 2 k = V 2 k)
theorem skg_0 {S : SK} {g : Nat → Nat} {c k : Nat} : skg S g c 0 k = S 0 k := by simp [skg]
theorem skg_in {S : SK} {g : Nat → Nat} {c k : Nat} (h : k < c) (h5 : g k < 5) : skg S g c 1 k = nI (g k) ∧ skg S g c 2 k = 1 := by simp [skg, h, h5]
theorem skg_out {S : SK} {g : Nat → Nat} {c r k : Nat} (h : ¬ (k < c ∧ g k < 5)) : skg S g c r k = S r k := by simp only [skg, if_neg h]
theorem fr_c2 {p : Int32} {on pb on2 pb2 : Nat → Int32} {l : Int32} : ∀ {n : Nat}, (∀ k, k < n → on k = on2 k ∧ (on2 k = l → pb k = pb2 k)) → fr p on pb l n = fr p on2 pb2 l n
  | 0, _ => rfl
  | n + 1, h => by
    show (if on n = l then fr p on pb l n - pb n else fr p on pb l n) = (if on2 n = l then fr p on2 pb2 l n - pb2 n else fr p on2 pb2 l n)
    rw [fr_c2 (fun k hk => h k (by omega)), (h n (by omega)).1]
    by_cases q : on2 n = l
    · rw [if_pos q, if_pos q, (h n (by omega)).2 q]
    · rw [if_neg q, if_neg q]
theorem frS_A {T : TW} {U V : SK} {l : Nat} (h : skA T U V) (hl : l < 5) : frS T U l = frS T V l := fr_c2 (fun k hk => ⟨(h k hk).2.1, fun e => (h k hk).2.2 (by rw [e]; exact nm1 l hl)⟩)
theorem cnS_A {T : TW} {U V : SK} {p j : Nat} {out : Int32} (h : skA T U V) : cnS T U p out j = cnS T V p out j := by
  unfold cnS
  refine hmF_cong (fun k hk => ?_)
  unfold kdc
  rw [(h k hk).1, (h k hk).2.1]
theorem weS_A {T : TW} {U V : SK} {p : Nat} (h : skA T U V) : weS T U p = weS T V p := by
  unfold weS wxS
  rw [wst_cong (fun j _ => cnS_A h) (Nat.le_refl 4)]
theorem skA_up {T : TW} {U S : SK} {g : Nat → Nat} {c k : Nat} (h : skA T U (skg S g c)) (hk : k < 5) : skA T (puS U c (nI k) 1) (skg S (ud g c k) (c + 1)) := by
  intro i hi
  obtain ⟨h0, h1, h2⟩ := h i hi
  rw [skg_0] at h0 ⊢
  rw [pu_0, pu_1, pu_2]
  by_cases q : i = c
  · subst q
    have e : ud g i k i = k := by simp [ud]
    obtain ⟨e1, e2⟩ := skg_in (S := S) (g := ud g i k) (c := i + 1) (k := i) (by omega) (by rw [e]; exact hk)
    rw [e1, e2, e]
    simp [h0]
  · have e : ∀ r, skg S (ud g c k) (c + 1) r i = skg S g c r i := fun r => by
      unfold skg
      have : ud g c k i = g i := by simp [ud, q]
      rw [this]
      by_cases z : i < c
      · simp [z, show i < c + 1 by omega]
      · simp [z, show ¬ i < c + 1 by omega]
    rw [e, e]
    simp only [q, if_false]
    exact ⟨h0, h1, h2⟩
theorem skA_dn {T : TW} {U S : SK} {g : Nat → Nat} {c k : Nat} (h : skA T U (skg S (ud g c k) (c + 1))) (hc : S 1 c = -1) : skA T (dnS U c) (skg S g c) := by
  intro i hi
  obtain ⟨h0, h1, h2⟩ := h i hi
  rw [skg_0] at h0 ⊢
  unfold dnS
  rw [pu_0, pu_1, pu_2]
  by_cases q : i = c
  · subst q
    rw [skg_out (fun e => by omega), skg_out (fun e => by omega), hc]
    simp [h0]
  · have e : ∀ r, skg S (ud g c k) (c + 1) r i = skg S g c r i := fun r => by
      unfold skg
      have : ud g c k i = g i := by simp [ud, q]
      rw [this]
      by_cases z : i < c
      · simp [z, show i < c + 1 by omega]
      · simp [z, show ¬ i < c + 1 by omega]
    rw [e] at h1 h2
    rw [e] at h2
    simp only [q, if_false]
    exact ⟨h0, h1, h2⟩
theorem skg_no {S : SK} {g : Nat → Nat} {c : Nat} : skg S (ud g c 5) (c + 1) = skg S g c := by
  funext r i
  unfold skg
  by_cases q : i = c
  · subst q
    simp [ud]
  · have : ud g c 5 i = g i := by simp [ud, q]
    rw [this]
    by_cases z : i < c
    · simp [z, show i < c + 1 by omega]
    · simp [z, show ¬ i < c + 1 by omega]
/-! the question, of a street, a sky, and what is wanted -/
def kdN (T : TW) (k : Nat) : Nat := (T.2 3 k).toNatClampNeg
def wnN (x : Int32) : Nat := if x = -2 then 5 else if x = -1 then 4 else x.toNatClampNeg
def abN (T : TW) (p l : Nat) : Bool := decide ((T.2 2 p >>> (nI l &&& 31)) &&& 1 = 1)
def PW (T : TW) (S : SK) (W : Nat → Int32) : RQ := ((T.1 0, T.1 1, T.1 2), fun l => (frS T S l).toInt, fun k => decide (S 1 k = -1), fun k => decide (¬ S 0 k ≤ 0), kdN T, abN T, fun p j => hN (kdc (S 0) (S 1) (T.2 3) (T.2 2 p) 0 j) (T.1 2), fun p => wnN (W p))
theorem kdN_ok {T : TW} (hV : VTn T) {k : Nat} (hk : k < T.1 2) : kdN T k < 4 ∧ T.2 3 k = nI (kdN T k) := by
  obtain ⟨⟨q, hq, e⟩, -⟩ := hV.2.2.1 k hk
  unfold kdN
  rw [e, cl_n (by omega)]
  exact ⟨hq, rfl⟩
theorem Okq_PW {T : TW} {S : SK} {W : Nat → Int32} (hV : VTn T) : Okq (PW T S W) := ⟨hV.1.1, hV.1.2.1, hV.1.2.2.1, fun k hk => (kdN_ok hV hk).1⟩
/-- a row so far: lines or none, hung ones lay -/
def rOk (T : TW) (S : SK) (g : Nat → Nat) (c : Nat) : Prop := ∀ k, k < c → (g k < T.1 0 ∧ S 1 k = -1) ∨ g k = 5
theorem i_ss (x a b : Int32) : x - a - b = x - (a + b) := Int32.sub_sub x a b
theorem i_sc (x a b : Int32) : x - a - b = x - b - a := by rw [i_ss, i_ss, Int32.add_comm]
theorem fr_row {S : SK} {g : Nat → Nat} {c l : Nat} (h5 : ∀ k, k < c → g k < 5 → S 1 k = -1) (hl : l < 5) (p0 : Int32) : ∀ n, fr p0 (skg S g c 1) (skg S g c 2) (nI l) n = fr p0 (S 1) (S 2) (nI l) n - nI (zsm (fun k => if k < c then (if g k = l then 1 else 0) else 0) n)
  | 0 => by show p0 = p0 - nI 0; rw [nI_0]; simp
  | n + 1 => by
    show (if skg S g c 1 n = nI l then fr p0 (skg S g c 1) (skg S g c 2) (nI l) n - skg S g c 2 n else fr p0 (skg S g c 1) (skg S g c 2) (nI l) n) = (if S 1 n = nI l then fr p0 (S 1) (S 2) (nI l) n - S 2 n else fr p0 (S 1) (S 2) (nI l) n) - nI (zsm (fun k => if k < c then (if g k = l then 1 else 0) else 0) n + (if n < c then (if g n = l then 1 else 0) else 0))
    rw [fr_row h5 hl p0 n]
    generalize fr p0 (S 1) (S 2) (nI l) n = x
    generalize zsm (fun k => if k < c then (if g k = l then 1 else 0) else 0) n = a
    by_cases q : n < c ∧ g n < 5
    · obtain ⟨e1, e2⟩ := skg_in (S := S) q.1 q.2
      have e3 : ¬ S 1 n = nI l := by rw [h5 n q.1 q.2]; exact fun e => nm1 l hl e.symm
      rw [e1, e2, if_neg e3, if_pos q.1]
      by_cases q2 : g n = l
      · rw [if_pos (by rw [q2]), if_pos q2, i_ss, nI_1]
      · rw [if_neg (fun e => q2 ((nI_eq (by omega) (by omega)).mp e)), if_neg q2]; rfl
    · rw [skg_out q, skg_out q]
      have e3 : (if n < c then (if g n = l then 1 else 0) else 0) = 0 := by
        by_cases z : n < c
        · rw [if_pos z, if_neg (fun e => q ⟨z, by omega⟩)]
        · rw [if_neg z]
      rw [e3]
      by_cases z : S 1 n = nI l
      · rw [if_pos z, if_pos z, i_sc]; rfl
      · rw [if_neg z, if_neg z]; rfl
theorem fr_fin : ∀ i : Nat, i < 28 → ∀ a : Nat, a < 7 → ((Int32.ofInt ((i : Int) - 18) - nI a ≤ 0) ↔ ((i : Int) - 18 ≤ (a : Int))) ∧ (Int32.ofInt ((i : Int) - 18)).toInt = (i : Int) - 18 := by decide +kernel
theorem fr_int {S : SK} {l q : Nat} : ∀ n, (∀ k, k < n → ∃ b, b ≤ 3 ∧ S 2 k = nI b) → ∃ z : Int, fr (nI q) (S 1) (S 2) (nI l) n = Int32.ofInt z ∧ (q : Int) - 3 * (n : Int) ≤ z ∧ z ≤ (q : Int)
  | 0, _ => ⟨q, rfl, by omega, by omega⟩
  | n + 1, h => by
    obtain ⟨z, e, h1, h2⟩ := fr_int (S := S) (l := l) (q := q) n (fun k hk => h k (by omega))
    show ∃ z : Int, (if S 1 n = nI l then fr (nI q) (S 1) (S 2) (nI l) n - S 2 n else fr (nI q) (S 1) (S 2) (nI l) n) = Int32.ofInt z ∧ _
    by_cases c : S 1 n = nI l
    · obtain ⟨b, hb, eb⟩ := h n (by omega)
      refine ⟨z - b, ?_, by omega, by omega⟩
      rw [if_pos c, e, eb, Int32.ofInt_sub]
      rfl
    · exact ⟨z, by rw [if_neg c]; exact e, by omega, by omega⟩
theorem fr_ix {T : TW} {S : SK} (hV : VTn T) (hv : VSk T S) {l : Nat} (hl : l < T.1 0) : ∃ i : Nat, i < 28 ∧ frS T S l = Int32.ofInt ((i : Int) - 18) := by
  obtain ⟨q, q1, q2, e⟩ := hV.2.2.2 l hl
  obtain ⟨z, e1, h1, h2⟩ := fr_int (S := S) (l := l) (q := q) (T.1 2) (fun k hk => (hv k hk).2.2)
  have := hV.1.2.2.1
  refine ⟨(z + 18).toNat, by omega, ?_⟩
  unfold frS
  rw [e, e1]
  congr 1
  omega
theorem rOk_5 {T : TW} {S : SK} {g : Nat → Nat} {c : Nat} (h : rOk T S g c) (hV : VTn T) : ∀ k, k < c → g k < 5 → S 1 k = -1 := fun k hk q => by
  rcases h k hk with z | z
  · exact z.2
  · omega
theorem row_free {T : TW} {S U : SK} {W : Nat → Int32} {g : Nat → Nat} {c l : Nat} (hV : VTn T) (hv : VSk T S) (hU : skA T U (skg S g c)) (hr : rOk T S g c) (hc : c ≤ T.1 2) (hl : l < T.1 0) : (¬ frS T U l ≤ 0) ↔ (ct g l c : Int) < qF (PW T S W) l := by
  have v5 := hV.1.1
  have v6 := hV.1.2.2.1
  obtain ⟨i, hi, e⟩ := fr_ix hV hv hl
  have h1 : frS T U l = frS T S l - nI (ct g l c) := by
    rw [frS_A hU (by omega)]
    unfold frS
    rw [fr_row (rOk_5 hr hV) (by omega), zsm_cut hc]
    rfl
  have hct : ct g l c < 7 := by
    have : ct g l c ≤ c := zsm_1 (fun k => by split <;> omega)
    omega
  show _ ↔ (ct g l c : Int) < (frS T S l).toInt
  obtain ⟨f1, f2⟩ := fr_fin i hi _ hct
  rw [h1, e, f2, f1]
  omega
theorem cn_row {T : TW} {S U : SK} {W : Nat → Int32} {g : Nat → Nat} {c p j : Nat} (hV : VTn T) (hU : skA T U (skg S g c)) (hr : rOk T S g c) (hc : c ≤ T.1 2) (hj : j < 4) : cnS T U p 0 j = nI (nN (PW T S W) g p c j) := by
  have v5 := hV.1.1
  have v6 := hV.1.2.2.1
  rw [cnS_A hU]
  unfold cnS
  rw [hmF_N]
  refine congrArg nI ?_
  show zsm _ (T.1 2) = hN (kdc (S 0) (S 1) (T.2 3) (T.2 2 p) 0 j) (T.1 2) + zsm (ad (PW T S W) g p j) c
  rw [← zsm_cut (f := ad (PW T S W) g p j) hc]
  unfold hN
  rw [← zsm_add]
  refine zsm_cong (fun k hk => ?_)
  obtain ⟨k4, ek⟩ := kdN_ok hV hk
  unfold kdc
  rw [skg_0]
  by_cases q : k < c ∧ g k < 5
  · obtain ⟨e1, -⟩ := skg_in (S := S) q.1 q.2
    have e0 := rOk_5 hr hV k q.1 q.2
    have gl : g k < T.1 0 := by
      rcases hr k q.1 with z | z
      · exact z.1
      · omega
    have ea : abv (T.2 2 p) (nI (g k)) = abN T p (g k) := by
      unfold abv abN
      simp [nm1 (g k) q.2]
    have ew : wtw (S 0 k) 0 k = decide (¬ S 0 k ≤ 0) := by
      unfold wtw
      simp [zshr k (by omega)]
    have ed : decide (T.2 3 k = nI j) = decide (kdN T k = j) := by
      rw [ek]
      exact decide_eq_decide.mpr (by rw [nI_eq (by omega) (by omega)])
    have eb : abv (T.2 2 p) (S 1 k) = false := by rw [e0]; simp [abv]
    rw [e1, ea, ew, ed, eb, if_pos q.1]
    show _ = _ + ad (PW T S W) g p j k
    unfold ad
    show _ = _ + (if g k < T.1 0 ∧ decide (¬ S 0 k ≤ 0) = true ∧ kdN T k = j ∧ abN T p (g k) = true then 1 else 0)
    by_cases z1 : abN T p (g k) = true <;> by_cases z2 : S 0 k ≤ 0 <;> by_cases z3 : kdN T k = j <;> simp [z1, z2, z3, gl]
  · rw [skg_out q]
    have e3 : (if k < c then ad (PW T S W) g p j k else 0) = 0 := by
      by_cases z : k < c
      · rw [if_pos z]
        unfold ad
        rw [if_neg (fun h => q ⟨z, by have : g k < T.1 0 := h.1; omega⟩)]
      · rw [if_neg z]
    rw [e3]
    rfl
theorem nN_lt {T : TW} {S : SK} {W : Nat → Int32} {g : Nat → Nat} {c p j : Nat} (hV : VTn T) (hc : c ≤ T.1 2) : nN (PW T S W) g p c j < 20 := by
  have h1 : zsm (ad (PW T S W) g p j) c ≤ c := zsm_1 (fun k => by unfold ad; split <;> omega)
  have h2 : hN (kdc (S 0) (S 1) (T.2 3) (T.2 2 p) 0 j) (T.1 2) ≤ T.1 2 := hN_le _ _
  have := hV.1.2.2.1
  show hN (kdc (S 0) (S 1) (T.2 3) (T.2 2 p) 0 j) (T.1 2) + _ < 20
  omega
/-! the weather, by counts -/
theorem rk_inv : ∀ t, t < 4 → (rk t + 2) % 4 = t := by decide
theorem rk_sur : ∀ j, j < 4 → rk ((j + 2) % 4) = j := by decide
theorem wst_is {N : Nat → Nat} (hN : ∀ j, j < 4 → N j < 20) : ∀ i, i ≤ 4 → ((wst (fun j => nI (N j)) i).1 = -1 ∧ (wst (fun j => nI (N j)) i).2 = 0 ∧ ∀ t, t < i → N (rk t) = 0) ∨ ∃ t, t < i ∧ (wst (fun j => nI (N j)) i).1 = nI (rk t) ∧ (wst (fun j => nI (N j)) i).2 = nI (N (rk t)) ∧ 0 < N (rk t) ∧ (∀ u, u < t → N (rk u) < N (rk t)) ∧ ∀ u, u < i → N (rk u) ≤ N (rk t)
  | 0, _ => Or.inl ⟨rfl, rfl, fun t ht => by omega⟩
  | i + 1, hi => by
    have ih := wst_is hN i (by omega)
    have hb := hN (rk i) (rk_lt i (by omega))
    have es : wst (fun j => nI (N j)) (i + 1) = if nI (N (rk i)) ≤ (wst (fun j => nI (N j)) i).2 then wst (fun j => nI (N j)) i else (nI (rk i), nI (N (rk i))) := rfl
    rcases ih with ⟨h1, h2, h3⟩ | ⟨t, ht, h1, h2, h3, h4, h5⟩
    · by_cases q : N (rk i) = 0
      · refine Or.inl ?_
        rw [es, if_pos (by rw [h2, q]; decide)]
        refine ⟨h1, h2, fun t ht => ?_⟩
        by_cases z : t = i
        · rw [z]; exact q
        · exact h3 t (by omega)
      · refine Or.inr ⟨i, by omega, ?_⟩
        rw [es, if_neg (by rw [h2]; exact nI_nle (by omega) (by omega))]
        refine ⟨rfl, rfl, by omega, fun u hu => by rw [h3 u hu]; omega, fun u hu => ?_⟩
        by_cases z : u = i
        · rw [z]; exact Nat.le_refl _
        · rw [h3 u (by omega)]; omega
    · have ht4 := hN (rk t) (rk_lt t (by omega))
      by_cases q : N (rk i) ≤ N (rk t)
      · refine Or.inr ⟨t, by omega, ?_⟩
        rw [es, if_pos (by rw [h2]; exact nI_le q (by omega))]
        refine ⟨h1, h2, h3, h4, fun u hu => ?_⟩
        by_cases z : u = i
        · rw [z]; exact q
        · exact h5 u (by omega)
      · refine Or.inr ⟨i, by omega, ?_⟩
        rw [es, if_neg (by rw [h2]; exact nI_ge (by omega) (by omega))]
        refine ⟨rfl, rfl, by omega, fun u hu => by have := h5 u hu; omega, fun u hu => ?_⟩
        by_cases z : u = i
        · rw [z]; exact Nat.le_refl _
        · have := h5 u (by omega); omega
theorem we_win {N : Nat → Nat} {x : Int32} (hN : ∀ j, j < 4 → N j < 20) (hx : x = (wst (fun j => nI (N j)) 4).1) : (x = -1 ↔ ∀ j, j < 4 → N j = 0) ∧ ∀ w, w < 4 → (x = nI w ↔ Wins N w) := by
  rcases wst_is hN 4 (Nat.le_refl 4) with ⟨h1, -, h3⟩ | ⟨t, ht, h1, -, h3, h4, h5⟩
  · rw [← hx] at h1
    have z : ∀ j, j < 4 → N j = 0 := fun j hj => by
      have := h3 ((j + 2) % 4) (Nat.mod_lt _ (by decide))
      rwa [rk_sur j hj] at this
    refine ⟨⟨fun _ => z, fun _ => h1⟩, fun w hw => ⟨fun e => ?_, fun e => ?_⟩⟩
    · rw [h1] at e
      exact absurd e.symm (nm1 w (by omega))
    · have := e.1
      have := z w hw
      omega
  · rw [← hx] at h1
    have hr := rk_lt t ht
    have hw0 : Wins N (rk t) := by
      refine ⟨h3, fun j hj hn => ?_⟩
      have e := rk_sur j hj
      have hu : (j + 2) % 4 < 4 := Nat.mod_lt _ (by decide)
      have k5 := h5 _ hu
      rw [e] at k5
      rw [rk_inv t ht]
      rcases Nat.lt_trichotomy ((j + 2) % 4) t with q | q | q
      · have := h4 _ q
        rw [e] at this
        exact Or.inl this
      · exact absurd (by rw [← e, q]) hn
      · by_cases z : N j = N (rk t)
        · exact Or.inr ⟨z, q⟩
        · exact Or.inl (by omega)
    refine ⟨⟨fun e => ?_, fun e => ?_⟩, fun w hw => ⟨fun e => ?_, fun e => ?_⟩⟩
    · rw [h1] at e
      exact absurd e (nm1 _ (by omega))
    · have := e (rk t) hr
      omega
    · rw [h1, nI_eq (by omega) (by omega)] at e
      rw [← e]
      exact hw0
    · rw [h1]
      by_cases z : rk t = w
      · rw [z]
      · have a1 := hw0.2 w hw (fun q => z q.symm)
        have a2 := e.2 (rk t) hr z
        omega
theorem we_meet {T : TW} {U : SK} {p : Nat} {N : Nat → Nat} (hc : ∀ j, j < 4 → cnS T U p 0 j = nI (N j)) (hN : ∀ j, j < 4 → N j < 20) {x : Int32} (hx : x = -2 ∨ x = -1 ∨ ∃ k, k < 4 ∧ x = nI k) : (x = -2 ∨ x = weS T U p) ↔ Meet N (wnN x) := by
  have he : weS T U p = (wst (fun j => nI (N j)) 4).1 := by
    unfold weS wxS
    rw [wst_cong hc (Nat.le_refl 4)]
  obtain ⟨w1, w2⟩ := we_win hN he
  rcases hx with rfl | rfl | ⟨k, hk, rfl⟩
  · exact ⟨fun _ => Or.inl (by simp [wnN]), fun _ => Or.inl rfl⟩
  · have e : wnN (-1) = 4 := by decide
    rw [e]
    constructor
    · intro h
      rcases h with h | h
      · exact absurd h (by decide)
      · exact Or.inr (Or.inl ⟨rfl, w1.mp h.symm⟩)
    · intro h
      rcases h with h | h | h
      · omega
      · exact Or.inr (w1.mpr h.2).symm
      · omega
  · have n2 : ¬ nI k = -2 := fun e => absurd (show nI k < 0 by rw [e]; decide) (nI_pos (by omega))
    have e : wnN (nI k) = k := by
      unfold wnN
      rw [if_neg n2, if_neg (nm1 k (by omega)), cl_n (by omega)]
    rw [e]
    constructor
    · intro h
      rcases h with h | h
      · exact absurd h n2
      · exact Or.inr (Or.inr ⟨hk, (w2 k hk).mp h.symm⟩)
    · intro h
      rcases h with h | h | h
      · omega
      · omega
      · exact Or.inr ((w2 k hk).mpr h.2).symm
/-- all that is wanted, by a row of all cloths -/
theorem mts_row {T : TW} {S U : SK} {W : Nat → Int32} {g : Nat → Nat} {c : Nat} (hV : VTn T) (vW : VWa T W) (hU : skA T U (skg S g c)) (hr : rOk T S g c) (hc : c ≤ T.1 2) : (∀ p, p < T.1 1 → W p = -2 ∨ W p = weS T U p) ↔ Mts (PW T S W) g c := by
  have v4 := hV.1.2.1
  constructor
  · intro h p hp
    exact (we_meet (fun j hj => cn_row hV hU hr hc hj) (fun j _ => nN_lt hV hc) (vW p (by have : p < T.1 1 := hp; omega)).1).mp (h p hp)
  · intro h p hp
    exact (we_meet (fun j hj => cn_row hV hU hr hc hj) (fun j _ => nN_lt hV hc) (vW p (by omega)).1).mpr (h p hp)
