/-! ===== names looked up ===== -/
theorem nI_n1 {k : Nat} (h : k < 2 ^ 31) : ¬ nI k = -1 := fun e => absurd (show nI k < 0 by rw [e]; decide) (nI_pos h)
def CNb (a : Nat) (T : TW) (N : Nat → Nat → List Nat) (σ : MM) : Prop := ∀ r, r < 3 → ∀ i, i < T.1 r → σ.2.1 (a + r) i = p32 (N r i)
def MNb (l a c : Nat) (T : TW) (N : Nat → Nat → List Nat) (σ : MM) : Prop := σ.1 249 c = nI (T.1 0 + T.1 1 + T.1 2) ∧ ∃ K : Nat → Nat × Nat, (∀ k, k < T.1 0 + T.1 1 + T.1 2 → (K k).1 < 3 ∧ (K k).2 < T.1 (K k).1 ∧ σ.2.1 l k = p37 (N (K k).1 (K k).2) ∧ σ.1 a k = nI (20 * (K k).1 + (K k).2)) ∧ ∀ r, r < 3 → ∀ i, i < T.1 r → ∃ k, k < T.1 0 + T.1 1 + T.1 2 ∧ K k = (r, i)
def tld (T : TW) (N : Nat → Nat → List Nat) (w : List Nat) : Prop := ∃ r i, r < 3 ∧ i < T.1 r ∧ N r i = w
theorem c_index {a n m : Nat} {N : Nat → List Nat} {w : List Nat} {σ : MM} (hm : n ≤ m) (hb : m < 1000) (hw : isW w) (hN : ∀ i, i < n → isW (N i) ∧ σ.2.1 a i = p32 (N i)) : wp (FX7_indexOf (p32 w) a (nI n) m) σ (fun x τ => τ = σ ∧ ((x = -1 ∧ ∀ i, i < n → ¬ N i = w) ∨ ∃ i, i < n ∧ x = nI i ∧ N i = w)) := by
  unfold FX7_indexOf
  refine ws_it (fun i s τ => s = nI i ∧ τ = σ ∧ ∀ j, j < i → ¬ N j = w) n (by omega) ⟨rfl, rfl, fun j hj => by omega⟩ ?_
  rintro i s τ hi ⟨rfl, rfl, hj⟩
  by_cases h1 : i < n
  · rw [if_neg (nle_n h1 (by omega)), if_neg (show ¬ Int32.ofNat m ≤ nI i from nle_n (by omega) (by omega))]
    obtain ⟨k1, k2⟩ := hN i h1
    refine ws_aL (by omega) (by omega) k2 ?_
    by_cases z : N i = w
    · rw [if_pos ((lg_cmp_eq _ _).mpr (by rw [z]))]
      exact wp_pu (Or.inr ⟨_, rfl, wp_pu ⟨rfl, Or.inr ⟨i, h1, rfl, z⟩⟩⟩)
    · rw [if_neg (fun q => z (p32_inj k1 hw ((lg_cmp_eq _ _).mp q))), lt_eq, nI_1]
      refine wp_pu (Or.inl ⟨_, rfl, h1, rfl, rfl, fun j q => ?_⟩)
      by_cases q2 : j = i
      · rw [q2]; exact z
      · exact hj j (by omega)
  · have : i = n := by omega
    subst this
    rw [if_pos (le_nn (by omega))]
    exact wp_pu (Or.inr ⟨_, rfl, wp_pu ⟨rfl, Or.inl ⟨rfl, hj⟩⟩⟩)
theorem c_isTold {T : TW} {N : Nat → Nat → List Nat} {w : List Nat} {σ : MM} (h5 : T.1 0 ≤ 5) (h4 : T.1 1 ≤ 4) (h6 : T.1 2 ≤ 6) (hw : isW w) (hV : ∀ r, r < 3 → ∀ i, i < T.1 r → isW (N r i)) (e9 : σ.1 16 9 = nI (T.1 0)) (e10 : σ.1 16 10 = nI (T.1 1)) (e11 : σ.1 16 11 = nI (T.1 2)) (hN : CNb 17 T N σ) : wp (FX7_isTold 16 (p32 w)) σ (fun x τ => τ = σ ∧ (x = true ↔ tld T N w)) := by
  unfold FX7_isTold
  rw [r16_0, r16_1, r16_2]
  refine ws_gv e9 (wp_bd (c_index (N := N 0) (n := T.1 0) h5 (by decide) hw (fun i hi => ⟨hV 0 (by decide) i hi, hN 0 (by decide) i hi⟩)) ?_)
  rintro x τ ⟨rfl, q0⟩
  rcases q0 with ⟨rfl, q0⟩ | ⟨i, hi, rfl, q0⟩
  · rw [if_pos rfl]
    refine bd_asw (ws_gv e10 (bd_asw (wp_bd (c_index (N := N 1) (n := T.1 1) h4 (by decide) hw (fun i hi => ⟨hV 1 (by decide) i hi, hN 1 (by decide) i hi⟩)) ?_)))
    rintro x τ2 ⟨rfl, q1⟩
    rcases q1 with ⟨rfl, q1⟩ | ⟨i, hi, rfl, q1⟩
    · rw [if_pos rfl]
      refine bd_asw (ws_gv e11 (bd_asw (wp_bd (c_index (N := N 2) (n := T.1 2) h6 (by decide) hw (fun i hi => ⟨hV 2 (by decide) i hi, hN 2 (by decide) i hi⟩)) ?_)))
      rintro x τ3 ⟨rfl, q2⟩
      rcases q2 with ⟨rfl, q2⟩ | ⟨i, hi, rfl, q2⟩
      · rw [if_pos rfl]
        refine wp_eq (show pu (0 : Int32) τ3 = some (_, τ3) from rfl) (ws_z0 ⟨rfl, ⟨fun q => absurd q (by decide), fun q => ?_⟩⟩)
        obtain ⟨r, i, h1, h2, h3⟩ := q
        exfalso
        by_cases r0 : r = 0
        · subst r0; exact q0 i h2 h3
        by_cases r1 : r = 1
        · subst r1; exact q1 i h2 h3
        have r2 : r = 2 := by omega
        subst r2
        exact q2 i h2 h3
      · rw [if_neg (nI_n1 (by omega))]
        exact wp_eq (show pu (1 : Int32) τ3 = some (_, τ3) from rfl) (ws_z1 ⟨rfl, ⟨fun _ => ⟨2, i, by decide, hi, q2⟩, fun _ => rfl⟩⟩)
    · rw [if_neg (nI_n1 (by omega))]
      exact wp_eq (show pu (1 : Int32) τ2 = some (_, τ2) from rfl) (ws_z1 ⟨rfl, ⟨fun _ => ⟨1, i, by decide, hi, q1⟩, fun _ => rfl⟩⟩)
  · rw [if_neg (nI_n1 (by omega))]
    exact wp_eq (show pu (1 : Int32) τ = some (_, τ) from rfl) (ws_z1 ⟨rfl, ⟨fun _ => ⟨0, i, by decide, hi, q0⟩, fun _ => rfl⟩⟩)
/-- the model's names, by the flag -/
def nmR (p : Nat) : Nat × Nat × Nat := if p = 0 then (258, 260, 18) else (259, 261, 19)
theorem m_nameAt {Q : TA} {m t E p : Nat} {T : TW} {N : Nat → Nat → List Nat} {σ : MM} (vQ : VTa Q) (hp : p < 2) (h5 : T.1 0 ≤ 5) (h4 : T.1 1 ≤ 4) (h6 : T.1 2 ≤ 6) (hV : ∀ r, r < 3 → ∀ i, i < T.1 r → isW (N r i)) (hS : SM Q m t E σ) (hy : yT Q (tp Q t) = 1) (hN : MNb (nmR p).1 (nmR p).2.1 (nmR p).2.2 T N σ) : wp (FX12_nameAt 249 (nI p)) σ (fun x τ => τ = σ ∧ ((x = -1 ∧ ¬ tld T N (wT Q (tp Q t))) ∨ ∃ r i, r < 3 ∧ i < T.1 r ∧ x = nI (20 * r + i) ∧ N r i = wT Q (tp Q t))) := by
  obtain ⟨hm1, hm2⟩ := SM_m vQ hS
  obtain ⟨n1, K, n2, n3⟩ := hN
  have hw := wT_ok (tp_le (Q := Q) t) hy
  have hv := (hS.1.2.2.2 t hS.2.2.1).2.2.1 hy
  unfold FX12_nameAt
  rw [r249_6, r249_14, r249_15, r249_16, r249_17]
  have c1 : ∀ {β : Type} (k : Int32 → PP β) (P : β → MM → Prop), wp (k (nI (T.1 0 + T.1 1 + T.1 2))) σ P → wp (bd (if nI p = 0 then bd (gI 249 18) (fun x2 => pu x2) else bd (gI 249 19) (fun x3 => pu x3) : PP (Int32)) k) σ P := by
    intro β k P h
    by_cases z : p = 0
    · subst z
      rw [if_pos (show nI 0 = 0 from rfl)]
      exact bd_asw (ws_gv n1 (wp_eq (show pu _ σ = some (_, σ) from rfl) h))
    · have z1 : p = 1 := by omega
      subst z1
      rw [if_neg (by decide)]
      exact bd_asw (ws_gv n1 (wp_eq (show pu _ σ = some (_, σ) from rfl) h))
  have c2 : ∀ {β : Type} (i : Nat) (hi : i < T.1 0 + T.1 1 + T.1 2) (k : Int64 → PP β) (P : β → MM → Prop), wp (k (p37 (N (K i).1 (K i).2))) σ P → wp (bd (if nI p = 0 then bd (aL 258 15 (nI i)) (fun x5 => pu x5) else bd (aL 259 15 (nI i)) (fun x6 => pu x6) : PP (Int64)) k) σ P := by
    intro β i hi k P h
    by_cases z : p = 0
    · subst z
      rw [if_pos (show nI 0 = 0 from rfl)]
      exact bd_asw (ws_aL (by omega) (by decide) (n2 i hi).2.2.1 (wp_eq (show pu _ σ = some (_, σ) from rfl) h))
    · have z1 : p = 1 := by omega
      subst z1
      rw [if_neg (by decide)]
      exact bd_asw (ws_aL (by omega) (by decide) (n2 i hi).2.2.1 (wp_eq (show pu _ σ = some (_, σ) from rfl) h))
  have c3 : ∀ {β : Type} (i : Nat) (hi : i < T.1 0 + T.1 1 + T.1 2) (k : Int32 → PP β) (P : β → MM → Prop), wp (k (nI (20 * (K i).1 + (K i).2))) σ P → wp (bd (if nI p = 0 then bd (aI 260 15 (nI i)) (fun x13 => pu x13) else bd (aI 261 15 (nI i)) (fun x14 => pu x14) : PP (Int32)) k) σ P := by
    intro β i hi k P h
    by_cases z : p = 0
    · subst z
      rw [if_pos (show nI 0 = 0 from rfl)]
      exact bd_asw (ws_a (by omega) (by decide) (n2 i hi).2.2.2 (wp_eq (show pu _ σ = some (_, σ) from rfl) h))
    · have z1 : p = 1 := by omega
      subst z1
      rw [if_neg (by decide)]
      exact bd_asw (ws_a (by omega) (by decide) (n2 i hi).2.2.2 (wp_eq (show pu _ σ = some (_, σ) from rfl) h))
  refine ws_it (fun i s τ => s = nI i ∧ τ = σ ∧ ∀ j, j < i → ¬ N (K j).1 (K j).2 = wT Q (tp Q t)) (T.1 0 + T.1 1 + T.1 2) (by omega) ⟨rfl, rfl, fun j hj => by omega⟩ ?_
  rintro i s τ hi ⟨rfl, rfl, hj⟩
  refine c1 _ _ ?_
  by_cases h1 : i < T.1 0 + T.1 1 + T.1 2
  · rw [if_neg (nle_n h1 (by omega))]
    refine c2 i h1 _ _ (ws_gv hS.2.2.2.1 (ws_aL (by omega) (by decide) hv ?_))
    obtain ⟨k1, k2, -, -⟩ := n2 i h1
    by_cases z : N (K i).1 (K i).2 = wT Q (tp Q t)
    · rw [if_pos ((lg_cmp_eq _ _).mpr (by rw [z]))]
      exact wp_pu (Or.inr ⟨_, rfl, c3 i h1 _ _ (wp_pu ⟨rfl, Or.inr ⟨_, _, k1, k2, rfl, z⟩⟩)⟩)
    · rw [if_neg (fun q => z (p37_inj (hV _ k1 _ k2) hw ((lg_cmp_eq _ _).mp q))), lt_eq, nI_1]
      refine wp_pu (Or.inl ⟨_, rfl, h1, rfl, rfl, fun j q => ?_⟩)
      by_cases q2 : j = i
      · rw [q2]; exact z
      · exact hj j (by omega)
  · have : i = T.1 0 + T.1 1 + T.1 2 := by omega
    rw [if_pos (show nI (T.1 0 + T.1 1 + T.1 2) ≤ nI i by rw [this]; exact le_nn (by omega))]
    refine wp_pu (Or.inr ⟨_, rfl, wp_pu ⟨rfl, Or.inl ⟨rfl, ?_⟩⟩⟩)
    rintro ⟨r, i2, q1, q2, q3⟩
    obtain ⟨k, l1, l2⟩ := n3 r q1 i2 q2
    have := hj k (by omega)
    rw [l2] at this
    exact this q3
/-- a name looked for: what is found, and the fault -/
def lk (Q : TA) (N : Nat → List Nat) (n t E : Nat) (R : Option Nat × Nat) : Prop := (R = (none, E) ∧ ¬ E = 0) ∨ (R = (none, fc Q 1 t) ∧ E = 0 ∧ nmB Q t = false) ∨ (R = (none, fc Q 2 t) ∧ E = 0 ∧ nmB Q t = true ∧ ∀ i, i < n → ¬ N i = wT Q (tp Q t)) ∨ ∃ i, i < n ∧ R = (some i, 0) ∧ E = 0 ∧ nmB Q t = true ∧ N i = wT Q (tp Q t)
theorem lk_ex (Q : TA) (N : Nat → List Nat) (n t E : Nat) : ∃ R, lk Q N n t E R := by
  by_cases e : E = 0
  · cases hb : nmB Q t with
    | false => exact ⟨_, Or.inr (Or.inl ⟨rfl, e, hb⟩)⟩
    | true =>
      by_cases z : ∃ i, i < n ∧ N i = wT Q (tp Q t)
      · obtain ⟨i, h1, h2⟩ := z
        exact ⟨_, Or.inr (Or.inr (Or.inr ⟨i, h1, rfl, e, hb, h2⟩))⟩
      · exact ⟨_, Or.inr (Or.inr (Or.inl ⟨rfl, e, hb, fun i h1 h2 => z ⟨i, h1, h2⟩⟩))⟩
  · exact ⟨_, Or.inl ⟨rfl, e⟩⟩
theorem lk_E {Q : TA} {N : Nat → List Nat} {n t E : Nat} {R : Option Nat × Nat} (vQ : VTa Q) (hE : E < 20000) (h : lk Q N n t E R) : R.2 < 20000 ∧ (R.1 = none ↔ ¬ R.2 = 0) ∧ (R.2 = 0 → E = 0) := by
  rcases h with ⟨rfl, h⟩ | ⟨rfl, h1, h⟩ | ⟨rfl, h1, h, -⟩ | ⟨i, hi, rfl, h1, -⟩
  · exact ⟨hE, ⟨fun _ => h, fun _ => rfl⟩, fun q => absurd q h⟩
  · exact ⟨fc_lt vQ (by decide), ⟨fun _ => fc_ne (by decide), fun _ => rfl⟩, fun _ => h1⟩
  · exact ⟨fc_lt vQ (by decide), ⟨fun _ => fc_ne (by decide), fun _ => rfl⟩, fun _ => h1⟩
  · exact ⟨by show 0 < 20000; decide, ⟨fun q => absurd q (by simp), fun q => absurd rfl q⟩, fun _ => h1⟩
def oI (o : Option Nat) (d : Int32) : Int32 := match o with
  | none => d
  | some i => nI i
theorem c_findName {Q : TA} {N : Nat → List Nat} {a n m t E : Nat} {R : Option Nat × Nat} {σ : MM} (hE : E < 20000) (hm : n ≤ m) (hb : m < 1000) (hV : ∀ i, i < n → isW (N i)) (hN : ∀ i, i < n → σ.2.1 a i = p32 (N i)) (hS : SC Q t E σ) (hR : lk Q N n t E R) (hu : ∀ i j, i < n → j < n → N i = N j → i = j) : wp (FX5_findName 1 a (nI n) m) σ (fun x τ => x = oI R.1 (-1) ∧ SC Q t R.2 τ ∧ FT σ τ) := by
  unfold FX5_findName
  refine wp_eq (c_isName hS) ?_
  have f1 : ∀ (d : Nat), R = (none, d) → fE Q 1 t E = d → (decide (E = 0) && nmB Q t) = false → wp (if b2i (decide (E = 0) && nmB Q t) = 0 then bd (FX5_fail 1 (1 : Int32)) (fun (_ : Unit) => pu (-1 : Int32)) else bd (gL 1 4) (fun x2 => bd (FX7_indexOf x2 a (nI n) m) (fun x3 => bd (if x3 = (-1 : Int32) then bd (FX5_fail 1 (2 : Int32)) (fun (_ : Unit) => pu ()) else pu () : PP (Unit)) (fun (v5 : Unit) => pu x3)))) σ (fun x τ => x = oI R.1 (-1) ∧ SC Q t R.2 τ ∧ FT σ τ) := by
    intro d hR2 hf hn
    rw [hn, if_pos (show b2i false = 0 from rfl), hR2]
    refine wp_bd (c_fail (k := 1) (by decide) hE hS) (fun _ τ q => wp_pu ⟨rfl, ?_, q.2⟩)
    have := q.1
    rw [hf] at this
    exact this
  have hx : ∀ (hE0 : E = 0) (hb1 : nmB Q t = true), yT Q (tp Q t) = 1 ∧ isW (wT Q (tp Q t)) ∧ σ.2.1 1 4 = p32 (wT Q (tp Q t)) := by
    intro hE0 hb1
    have hy : yT Q (tp Q t) = 1 := by
      unfold nmB at hb1
      simp only [Bool.and_eq_true, decide_eq_true_eq] at hb1
      exact hb1.1
    exact ⟨hy, wT_ok (tp_le t) hy, (hS.2.2.1 hE0).2.2.1 hy⟩
  rcases hR with ⟨rfl, h⟩ | ⟨rfl, h1, h⟩ | ⟨rfl, h1, h, h2⟩ | ⟨i, hi, rfl, h1, h, h2⟩
  · exact f1 E rfl (by unfold fE; rw [if_neg h]) (by simp [h])
  · exact f1 _ rfl (by unfold fE; rw [if_pos h1]) (by rw [h]; simp)
  · obtain ⟨y1, y2, y3⟩ := hx h1 h
    subst h1
    rw [h, if_neg (show ¬ b2i (decide ((0 : Nat) = 0) && true) = 0 by decide)]
    refine ws_gL y3 (wp_bd (c_index (N := N) hm hb y2 (fun i hi => ⟨hV i hi, hN i hi⟩)) ?_)
    rintro x τ ⟨rfl, q⟩
    rcases q with ⟨rfl, q⟩ | ⟨i, hi, rfl, q⟩
    · rw [if_pos rfl]
      refine bd_asw (wp_bd (c_fail (k := 2) (by decide) hE hS) (fun _ τ2 q => ?_))
      exact wp_eq (show pu () τ2 = some ((), τ2) from rfl) (wp_pu ⟨rfl, q.1, q.2⟩)
    · exact absurd q (h2 i hi)
  · obtain ⟨y1, y2, y3⟩ := hx h1 h
    subst h1
    rw [h, if_neg (show ¬ b2i (decide ((0 : Nat) = 0) && true) = 0 by decide)]
    refine ws_gL y3 (wp_bd (c_index (N := N) hm hb y2 (fun i hi => ⟨hV i hi, hN i hi⟩)) ?_)
    rintro x τ ⟨rfl, q⟩
    rcases q with ⟨rfl, q⟩ | ⟨i2, hi2, rfl, q⟩
    · exact absurd h2 (q i hi)
    · have : i2 = i := hu i2 i hi2 hi (q.trans h2.symm)
      subst this
      rw [if_neg (nI_n1 (by omega))]
      exact wp_eq (show pu () τ = some ((), τ) from rfl) (wp_pu ⟨rfl, hS, FT_rf⟩)
