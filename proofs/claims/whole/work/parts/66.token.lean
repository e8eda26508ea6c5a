/-! ===== tokens ===== -/
def isL (c : Int32) : Bool := decide (¬ c < 97) && decide (¬ 122 < c)
def isD (c : Int32) : Bool := decide (¬ c < 48) && decide (¬ 57 < c)
def isB (c : Int32) : Bool := decide (c = 10) || decide (c = 32)
def isS (c : Int32) : Bool := decide (c = 40) || (decide (c = 41) || (decide (c = 59) || (decide (c = 61) || (decide (c = 60) || (decide (c = 43) || (decide (c = 45) || decide (c = 42)))))))
theorem c_isLetter (c : Int32) (σ : MM) : FX5_isLetter c σ = some (isL c, σ) := by
  unfold FX5_isLetter isL
  by_cases q1 : c < 97 <;> by_cases q2 : 122 < c <;> simp [bd, q1, q2, pu, zb]
theorem c_isDigit (c : Int32) (σ : MM) : FX5_isDigit c σ = some (isD c, σ) := by
  unfold FX5_isDigit isD
  by_cases q1 : c < 48 <;> by_cases q2 : 57 < c <;> simp [bd, q1, q2, pu, zb]
theorem c_isBlank (c : Int32) (σ : MM) : FX5_isBlank c σ = some (isB c, σ) := by
  unfold FX5_isBlank isB
  by_cases q1 : c = 10
  · simp [bd, q1, pu, zb]
  · by_cases q2 : c = 32 <;> simp [bd, q1, q2, pu, zb]
theorem m_isLetter (c : Int32) (σ : MM) : FX12_isLetter c σ = some (isL c, σ) := by
  unfold FX12_isLetter isL
  by_cases q1 : c < 97 <;> by_cases q2 : 122 < c <;> simp [bd, q1, q2, pu, zb]
theorem m_isDigit (c : Int32) (σ : MM) : FX12_isDigit c σ = some (isD c, σ) := by
  unfold FX12_isDigit isD
  by_cases q1 : c < 48 <;> by_cases q2 : 57 < c <;> simp [bd, q1, q2, pu, zb]
theorem m_isSignOf (c : Int32) (σ : MM) : FX12_isSignOf c σ = some (isS c, σ) := by
  unfold FX12_isSignOf isS
  by_cases a1 : c = 40
  · simp [bd, a1, pu, zb]
  by_cases a2 : c = 41
  · simp [bd, a2, pu, zb]
  by_cases a3 : c = 59
  · simp [bd, a3, pu, zb]
  by_cases a4 : c = 61
  · simp [bd, a4, pu, zb]
  by_cases a5 : c = 60
  · simp [bd, a5, pu, zb]
  by_cases a6 : c = 43
  · simp [bd, a6, pu, zb]
  by_cases a7 : c = 45
  · simp [bd, a7, pu, zb]
  by_cases a8 : c = 42
  · simp [bd, a8, pu, zb]
  simp [bd, a1, a2, a3, a4, a5, a6, a7, a8, pu, zb]
def run (p : Nat → Bool) : Nat → Nat → Nat
  | i, 0 => i
  | i, m + 1 => if p i = true then run p (i + 1) m else i
theorem run_le {p : Nat → Bool} : ∀ (m i : Nat), i ≤ run p i m ∧ run p i m ≤ i + m
  | 0, i => ⟨Nat.le_refl i, Nat.le_refl i⟩
  | m + 1, i => by
    show i ≤ (if p i = true then run p (i + 1) m else i) ∧ (if p i = true then run p (i + 1) m else i) ≤ _
    have := run_le (p := p) m (i + 1)
    by_cases q : p i = true
    · rw [if_pos q]; omega
    · rw [if_neg q]; omega
theorem run_in {p : Nat → Bool} : ∀ (m i k : Nat), i ≤ k → k < run p i m → p k = true
  | 0, i, k, h1, h2 => by
    have : k < i := h2
    omega
  | m + 1, i, k, h1, h2 => by
    have e : run p i (m + 1) = if p i = true then run p (i + 1) m else i := rfl
    rw [e] at h2
    by_cases q : p i = true
    · rw [if_pos q] at h2
      by_cases z : k = i
      · rw [z]; exact q
      · exact run_in m (i + 1) k (by omega) h2
    · rw [if_neg q] at h2; omega
theorem run_out {p : Nat → Bool} : ∀ (m i : Nat), run p i m < i + m → p (run p i m) = false
  | 0, i, h => by
    have : i < i := h
    omega
  | m + 1, i, h => by
    have e : run p i (m + 1) = if p i = true then run p (i + 1) m else i := rfl
    rw [e] at h ⊢
    by_cases q : p i = true
    · rw [if_pos q] at h ⊢
      exact run_out m (i + 1) (by omega)
    · rw [if_neg q]
      simpa using q
abbrev TA : Type := Nat × (Nat → Int32)
/-- a token from the place i on: its start, its end, its sort, its letters, its number -/
def sT (Q : TA) (i : Nat) : Nat := run (fun k => isB (Q.2 k)) i (Q.1 - i)
def eT (Q : TA) (i : Nat) : Nat := if sT Q i < Q.1 then (if isL (Q.2 (sT Q i)) = true then run (fun k => isL (Q.2 k)) (sT Q i) (Q.1 - sT Q i) else if isD (Q.2 (sT Q i)) = true then run (fun k => isD (Q.2 k)) (sT Q i) (Q.1 - sT Q i) else sT Q i + 1) else sT Q i
def yT (Q : TA) (i : Nat) : Nat := if sT Q i < Q.1 then (if isL (Q.2 (sT Q i)) = true then (if eT Q i - sT Q i ≤ 8 then 1 else 4) else if isD (Q.2 (sT Q i)) = true then (if eT Q i - sT Q i ≤ 4 then 2 else 4) else if isS (Q.2 (sT Q i)) = true then 3 else 4) else 0
def wd (Q : TA) (s m : Nat) : List Nat := (List.range m).map (fun k => (Q.2 (s + k)).toNatClampNeg - 96)
def dgs (Q : TA) (s : Nat) : Nat → Nat
  | 0 => 0
  | m + 1 => dgs Q s m * 10 + ((Q.2 (s + m)).toNatClampNeg - 48)
def wT (Q : TA) (i : Nat) : List Nat := wd Q (sT Q i) (eT Q i - sT Q i)
def nT (Q : TA) (i : Nat) : Nat := dgs Q (sT Q i) (eT Q i - sT Q i)
theorem sT_le {Q : TA} {i : Nat} (h : i ≤ Q.1) : i ≤ sT Q i ∧ sT Q i ≤ Q.1 := by
  have := run_le (p := fun k => isB (Q.2 k)) (Q.1 - i) i
  unfold sT
  omega
theorem eT_le {Q : TA} {i : Nat} (h : i ≤ Q.1) : sT Q i ≤ eT Q i ∧ eT Q i ≤ Q.1 ∧ (sT Q i < Q.1 → sT Q i < eT Q i) := by
  have h1 := sT_le h
  unfold eT
  by_cases q : sT Q i < Q.1
  · rw [if_pos q]
    by_cases q2 : isL (Q.2 (sT Q i)) = true
    · rw [if_pos q2]
      have a1 := run_le (p := fun k => isL (Q.2 k)) (Q.1 - sT Q i) (sT Q i)
      refine ⟨a1.1, by omega, fun _ => ?_⟩
      rw [show Q.1 - sT Q i = (Q.1 - sT Q i - 1) + 1 by omega]
      show sT Q i < (if isL (Q.2 (sT Q i)) = true then run _ (sT Q i + 1) _ else _)
      rw [if_pos q2]
      have := (run_le (p := fun k => isL (Q.2 k)) (Q.1 - sT Q i - 1) (sT Q i + 1)).1
      omega
    · rw [if_neg q2]
      by_cases q3 : isD (Q.2 (sT Q i)) = true
      · rw [if_pos q3]
        have a1 := run_le (p := fun k => isD (Q.2 k)) (Q.1 - sT Q i) (sT Q i)
        refine ⟨a1.1, by omega, fun _ => ?_⟩
        rw [show Q.1 - sT Q i = (Q.1 - sT Q i - 1) + 1 by omega]
        show sT Q i < (if isD (Q.2 (sT Q i)) = true then run _ (sT Q i + 1) _ else _)
        rw [if_pos q3]
        have := (run_le (p := fun k => isD (Q.2 k)) (Q.1 - sT Q i - 1) (sT Q i + 1)).1
        omega
      · rw [if_neg q3]; omega
  · rw [if_neg q]; omega
/-- the places between tokens -/
def tp (Q : TA) : Nat → Nat
  | 0 => 0
  | t + 1 => eT Q (tp Q t)
theorem tp_le {Q : TA} : ∀ t, tp Q t ≤ Q.1
  | 0 => Nat.zero_le _
  | t + 1 => (eT_le (tp_le t)).2.1
/-! words by their letters -/
theorem p32_s (w : List Nat) (x : Nat) : p32 (w ++ [x]) = p32 w * 32 + lN x := by
  unfold p32
  rw [List.foldl_append]
  rfl
theorem p37_s (w : List Nat) (x : Nat) : p37 (w ++ [x]) = 37 * p37 w + lN x := by
  unfold p37
  rw [List.foldl_append]
  rfl
theorem wd_s (Q : TA) (s m : Nat) : wd Q s (m + 1) = wd Q s m ++ [(Q.2 (s + m)).toNatClampNeg - 96] := by
  unfold wd
  rw [List.range_succ, List.map_append]
  rfl
theorem wd_len (Q : TA) (s m : Nat) : (wd Q s m).length = m := by simp [wd]
theorem L_ex {c : Int32} (h : isL c = true) : ∃ q, 97 ≤ q ∧ q ≤ 122 ∧ c = nI q := by
  unfold isL at h
  simp only [Bool.and_eq_true, decide_eq_true_eq] at h
  obtain ⟨q, hq, e⟩ := nI_of2 (n := 122) rfl (fun z => h.1 (Int32.lt_trans z (by decide))) (Int32.not_lt.mp h.2)
  refine ⟨q, ?_, hq, e⟩
  apply Classical.byContradiction
  intro z
  apply h.1
  rw [e]
  exact nIlt (b := 97) (by omega) (by decide)
theorem D_ex {c : Int32} (h : isD c = true) : ∃ q, 48 ≤ q ∧ q ≤ 57 ∧ c = nI q := by
  unfold isD at h
  simp only [Bool.and_eq_true, decide_eq_true_eq] at h
  obtain ⟨q, hq, e⟩ := nI_of2 (n := 57) rfl (fun z => h.1 (Int32.lt_trans z (by decide))) (Int32.not_lt.mp h.2)
  refine ⟨q, ?_, hq, e⟩
  apply Classical.byContradiction
  intro z
  apply h.1
  rw [e]
  exact nIlt (b := 48) (by omega) (by decide)
/-- the table's words -/
def wtx (k : Nat) : List Nat := (sby.getD k []).map (fun c => c.toNatClampNeg - 96)
def wxF (w : List Nat) : Nat → Option (Fin 23)
  | 0 => none
  | i + 1 => match wxF w i with
    | some x => some x
    | none => if h : i < 23 then (if wtx i = w then some ⟨i, h⟩ else none) else none
def wix (w : List Nat) : Option (Fin 23) := wxF w 23
theorem wx_st {w : List Nat} {x : Fin 23} {i : Nat} (h : wxF w i = some x) : ∀ m, i ≤ m → wxF w m = some x
  | 0, hm => by
    have : i = 0 := by omega
    rw [← this]; exact h
  | m + 1, hm => by
    by_cases q : i = m + 1
    · rw [← q]; exact h
    · show (match wxF w m with | some x => some x | none => _) = some x
      rw [wx_st h m (by omega)]
theorem wx_of {w : List Nat} {x : Fin 23} : ∀ i, wxF w i = some x → wtx x.val = w
  | 0, h => by cases h
  | i + 1, h => by
    have e : wxF w (i + 1) = match wxF w i with
      | some x => some x
      | none => if h : i < 23 then (if wtx i = w then some ⟨i, h⟩ else none) else none := rfl
    rw [e] at h
    cases hi : wxF w i with
    | some y =>
      rw [hi] at h
      cases h
      exact wx_of i hi
    | none =>
      rw [hi] at h
      by_cases q : i < 23
      · simp only [q, dif_pos] at h
        by_cases q2 : wtx i = w
        · rw [if_pos q2] at h
          cases h
          exact q2
        · rw [if_neg q2] at h
          cases h
      · simp only [q, dif_neg, not_false_eq_true] at h
        cases h
theorem wix_t : ∀ k : Fin 23, wix (wtx k.val) = some k := by decide +kernel
theorem wix_iff {w : List Nat} {k : Fin 23} : wix w = some k ↔ w = wtx k.val := by
  constructor
  · intro h; exact (wx_of 23 h).symm
  · intro h; rw [h]; exact wix_t k
theorem sby_ok : ∀ k, k < 23 → sln.getD k 0 = (sby.getD k []).length ∧ ∀ i, i < sln.getD k 0 → ib (nI i) (sln.getD k 0) = true ∧ (((((sby.getD k []).getD i 0) &&& (255 : Int32)).toUInt32 % 65536).toInt32 = (sby.getD k []).getD i 0 ∧ (((sby.getD k []).getD i 0).toUInt32 % 65536).toInt32 = (sby.getD k []).getD i 0) ∧ isL ((sby.getD k []).getD i 0) = true := by decide +kernel
theorem sln_lt : ∀ k, k < 24 → sln.getD k 0 < 9 := by decide +kernel
theorem j_len {k : Nat} (σ : MM) : FJ0_length_8abf5 k σ = some (nI (sln.getD k 0), σ) := by
  unfold FJ0_length_8abf5 FJ0_coder_7d493
  simp [bd, pu, gd]
  rfl
theorem j_charAt {k i : Nat} (hk : k < 23) (hi : i < sln.getD k 0) (σ : MM) : FJ0_charAt_5068e k (nI i) σ = some ((sby.getD k []).getD i 0, σ) := by
  obtain ⟨h1, h2, h3⟩ := (sby_ok k hk).2 i hi
  have h9 := sln_lt k (by omega)
  have n0 : ¬ nI i < 0 := nI_pos (by omega)
  have n1 : nI i < nI (sln.getD k 0) := nIlt hi (by omega)
  have e1 : FJ0_isLatin1_aae02 k σ = some (true, σ) := rfl
  have e2 : FJ0_checkIndex_df160 (nI i) (Int32.ofNat (sln.getD k 0)) σ = some ((), σ) := by
    unfold FJ0_checkIndex_df160 FJ3_checkIndex_8e157
    rw [if_neg n0, if_pos (show nI i < Int32.ofNat (sln.getD k 0) from n1)]
    rfl
  have e3 : aB k (nI i) σ = some ((sby.getD k []).getD i 0, σ) := by
    unfold aB
    rw [if_pos h1, cl_n (by omega)]
  have e4 : FJ1_charAt_3b067 k (nI i) σ = some ((sby.getD k []).getD i 0, σ) := by
    unfold FJ1_charAt_3b067
    refine (ev_bd e2).trans ((ev_bd e3).trans ?_)
    rw [h2.1]
    refine (ev_bd (show gd ((((sby.getD k []).getD i 0).toUInt32 % 65536).toInt32 = (sby.getD k []).getD i 0) σ = some ((), σ) by unfold gd; rw [if_pos h2.2])).trans rfl
  unfold FJ0_charAt_5068e
  refine (ev_bd e1).trans ?_
  rw [if_neg (show ¬ b2i true = 0 by decide)]
  refine (ev_bd e4).trans ?_
  exact (ev_bd (show gd ((((sby.getD k []).getD i 0).toUInt32 % 65536).toInt32 = (sby.getD k []).getD i 0) σ = some ((), σ) by unfold gd; rw [if_pos h2.2])).trans rfl
theorem getE (L : List Int32) (i : Nat) (h : i < L.length) : L[i]? = some (L.getD i 0) := by
  rw [List.getD_eq_getElem?_getD, List.getElem?_eq_getElem h]
  rfl
theorem c_standsAt {Q : TA} {σ : MM} {k s e : Nat} (hk : k < 23) (hQ : CTa Q σ) (hn : Q.1 ≤ 1000) (hse : s ≤ e) (he : e ≤ Q.1) (hL : ∀ j, s ≤ j → j < e → isL (Q.2 j) = true) : FX10_standsAt ⟨k, hk⟩ 2 (nI s) (nI e) σ = some (decide (wtx k = wd Q s (e - s)), σ) := by
  have h9 := sln_lt k (by omega)
  obtain ⟨hl, hc⟩ := sby_ok k hk
  have key : wp (FX10_standsAt ⟨k, hk⟩ 2 (nI s) (nI e)) σ (fun r τ => r = decide (wtx k = wd Q s (e - s)) ∧ τ = σ) := by
    unfold FX10_standsAt
    rw [if_neg (nI_pos (by omega)), if_neg (show ¬ (1000 : Int32) < nI e from fun z => by have := (nI_ltI (a := 1000) (by decide) (by omega)).mp z; omega)]
    refine wp_eq (j_len σ) ?_
    have lenw : (wtx k).length = sln.getD k 0 := by unfold wtx; rw [List.length_map, hl]
    rw [pk_sub hse]
    by_cases z : e - s = sln.getD k 0
    · rw [if_pos (by rw [z])]
      have get1 : ∀ i, i < sln.getD k 0 → (wtx k)[i]? = some (((sby.getD k []).getD i 0).toNatClampNeg - 96) := fun i hi => by
        unfold wtx
        rw [List.getElem?_map]
        rw [getE (sby.getD k []) i (by rw [← hl]; exact hi)]
        rfl
      have get2 : ∀ i, i < e - s → (wd Q s (e - s))[i]? = some ((Q.2 (s + i)).toNatClampNeg - 96) := fun i hi => by
        unfold wd
        rw [List.getElem?_map, List.getElem?_range hi]
        rfl
      refine ws_it (fun i t τ => t = nI i ∧ τ = σ ∧ ∀ j, j < i → Q.2 (s + j) = (sby.getD k []).getD j 0) (sln.getD k 0) (by omega) ⟨rfl, rfl, fun j hj => by omega⟩ ?_
      rintro i t τ hi ⟨rfl, rfl, hj⟩
      refine wp_eq (j_len τ) ?_
      by_cases hin : i < sln.getD k 0
      · rw [if_neg (nle_n hin (by omega)), nI_add]
        refine ws_a (by omega) (by decide) (hQ.2 (s + i) (by omega)) ?_
        refine wp_eq (j_charAt hk hin τ) ?_
        by_cases z2 : Q.2 (s + i) = (sby.getD k []).getD i 0
        · rw [if_pos z2, lt_eq]
          refine wp_pu (Or.inl ⟨_, rfl, hin, nI_1 i, rfl, fun j hj2 => ?_⟩)
          by_cases z3 : j = i
          · rw [z3]; exact z2
          · exact hj j (by omega)
        · rw [if_neg z2]
          refine wp_pu (Or.inr ⟨_, rfl, ws_z0 ⟨?_, rfl⟩⟩)
          symm
          rw [decide_eq_false_iff_not]
          intro hw
          apply z2
          have g1 := get1 i hin
          have g2 := get2 i (by omega)
          rw [hw, g2] at g1
          have g3 := Option.some.inj g1
          obtain ⟨a, a1, a2, a3⟩ := L_ex (hL (s + i) (by omega) (by omega))
          obtain ⟨b, b1, b2, b3⟩ := L_ex (hc i hin).2.2
          rw [a3, b3, cl_n (by omega), cl_n (by omega)] at g3
          rw [a3, b3]
          congr 1
          omega
      · have : i = sln.getD k 0 := by omega
        rw [if_pos (show nI (sln.getD k 0) ≤ nI i from nI_le (by omega) (by omega))]
        refine wp_pu (Or.inr ⟨_, rfl, ws_z1 ⟨?_, rfl⟩⟩)
        symm
        rw [decide_eq_true_iff]
        apply List.ext_getElem?
        intro j
        by_cases hjn : j < sln.getD k 0
        · rw [get1 j hjn, get2 j (by omega), hj j (by omega)]
        · rw [List.getElem?_eq_none (by omega), List.getElem?_eq_none (by rw [wd_len]; omega)]
    · rw [if_neg (fun q => z ((nI_eq (by omega) (by omega)).mp q))]
      refine ws_z0 ⟨?_, rfl⟩
      symm
      rw [decide_eq_false_iff_not]
      intro hw
      apply z
      have := congrArg List.length hw
      rw [lenw, wd_len] at this
      omega
  obtain ⟨r, τ, e1, rfl, rfl⟩ := key
  exact e1
