/-! ===== parts of a law ===== -/
noncomputable def gpJ (self : Nat → Nat → Int32 → PP Unit) (p2 v5 v7 : Int32) : PP Unit := if p2 < (5 : Int32) then if v7 = 0 then bd (gI 1 2) (fun x13 => if x13 = (40 : Int32) then bd (FX5_advance 1) (fun (_ : Unit) => bd (FX0_readWhole self 25 1 (p2 + (1 : Int32))) (fun (_ : Unit) => bd (gI 1 2) (fun x23 => if x23 = (41 : Int32) then bd (FX5_advance 1) (fun (_ : Unit) => pu ()) else bd (FX5_fail 1 (1 : Int32)) (fun (_ : Unit) => pu ())))) else bd (if v5 = 0 then bd (gI 1 5) (fun x14 => pu x14) else bd (gW) (fun x15 => bd (nn x15) (fun x16 => pu ((wva.getD x16.val 0)))) : PP (Int32)) (fun (v18 : Int32) => bd (FX0_addStep 25 v18) (fun (_ : Unit) => bd (FX5_advance 1) (fun (_ : Unit) => pu ())))) else bd (FX5_advance 1) (fun (_ : Unit) => bd (self 25 1 (p2 + (1 : Int32))) (fun (_ : Unit) => bd (FX0_addStep 25 (-5 : Int32)) (fun (_ : Unit) => pu ()))) else bd (FX5_fail 1 (5 : Int32)) (fun (_ : Unit) => pu ())
noncomputable def gpR (self : Nat → Nat → Int32 → PP Unit) (p2 v5 v7 : Int32) : PP Unit := bd (jn (fun (v12 : Unit) => gpJ self p2 v5 v7) (fun j8 => if v5 = 0 then if v7 = 0 then bd (gI 1 2) (fun x9 => if x9 = (3 : Int32) then j8 () else bd (gI 1 2) (fun x10 => if x10 = (40 : Int32) then j8 () else bd (FX5_fail 1 (1 : Int32)) (fun (_ : Unit) => pu ()))) else j8 () else j8 ()) : PP (Unit)) (fun (v30 : Unit) => pu ())
def c5 : Option (Fin 23) → Int32
  | none => 0
  | some w => if wgr.getD w.val 0 = 2 then 1 else 0
theorem gp_w {self : Nat → Nat → Int32 → PP Unit} {p2 : Int32} {x : Option (Fin 23)} {σ : MM} {P : Unit → MM → Prop} (hx : σ.2.2 = x) (h : wp (gpR self p2 (c5 x) (if x = some (16 : Fin 23) then 1 else 0)) σ P) : wp (GX0_readPart self 25 1 p2) σ P := by
  have h2 : wp (bd gW (fun x6 => bd (if x6 = ((some (16 : Fin 23))) then pu (1 : Int32) else pu (0 : Int32) : PP (Int32)) (fun (v7 : Int32) => gpR self p2 (c5 x) v7))) σ P := by
    refine ws_gW hx ?_
    by_cases z : x = some (16 : Fin 23)
    · rw [if_pos z] at h ⊢
      exact wp_eq (show pu (1 : Int32) σ = some (_, σ) from rfl) h
    · rw [if_neg z] at h ⊢
      exact wp_eq (show pu (0 : Int32) σ = some (_, σ) from rfl) h
  unfold GX0_readPart
  refine ws_gW hx ?_
  cases x with
  | none =>
    rw [if_pos rfl]
    exact wp_eq (show pu (0 : Int32) σ = some (_, σ) from rfl) h2
  | some w =>
    rw [if_neg (by simp)]
    refine bd_asw (ws_gW hx (bd_asw ?_))
    refine wp_eq (show nn (some w) σ = some (w, σ) from rfl) ?_
    by_cases z : wgr.getD w.val 0 = 2
    · have e : c5 (some w) = 1 := by show (if _ then _ else _) = _; rw [if_pos z]
      rw [e] at h2
      rw [if_pos z]
      exact wp_eq (show pu (1 : Int32) σ = some (_, σ) from rfl) h2
    · have e : c5 (some w) = 0 := by show (if _ then _ else _) = _; rw [if_neg z]
      rw [e] at h2
      rw [if_neg z]
      exact wp_eq (show pu (0 : Int32) σ = some (_, σ) from rfl) h2
/-- what stands here: nothing of a part, or its beginning -/
def ptB (Q : TA) (t : Nat) : Prop := (∃ j, j < 4 ∧ wB Q (19 + j) t = true) ∨ wB Q 16 t = true ∨ yT Q (tp Q t) = 2 ∨ gB Q 40 t = true
theorem wB_1 {Q : TA} {k t : Nat} (h : wB Q k t = true) : yT Q (tp Q t) = 1 ∧ wT Q (tp Q t) = wtx k := by
  unfold wB at h
  simpa using h
theorem gB_3 {Q : TA} {c : Int32} {t : Nat} (h : gB Q c t = true) : yT Q (tp Q t) = 3 ∧ Q.2 (sT Q (tp Q t)) = c := by
  unfold gB at h
  simpa using h
theorem wB_no {Q : TA} {k t : Nat} (h : ¬ yT Q (tp Q t) = 1) : wB Q k t = false := by unfold wB; simp [h]
theorem gB_no {Q : TA} {c : Int32} {t : Nat} (h : ¬ yT Q (tp Q t) = 3) : gB Q c t = false := by unfold gB; simp [h]
theorem wB_x {Q : TA} {k j t : Nat} (hk : k < 23) (hj : j < 23) (h : wB Q k t = true) (hn : ¬ k = j) : wB Q j t = false := by
  obtain ⟨h1, h2⟩ := wB_1 h
  cases q : wB Q j t with
  | false => rfl
  | true => exact absurd (wtx_inj k hk j hj (h2.symm.trans (wB_1 q).2)) hn
theorem wr_none {Q : TA} {t : Nat} (h : ¬ yT Q (tp Q t) = 1) : wrT Q (tp Q t) = none := by unfold wrT; rw [if_neg h]
theorem c5_0 {Q : TA} {t : Nat} (h : ∀ j, j < 4 → wB Q (19 + j) t = false) : c5 (wrT Q (tp Q t)) = 0 := by
  cases hx : wrT Q (tp Q t) with
  | none => rfl
  | some w =>
    show (if _ then _ else _) = _
    rw [if_neg]
    intro z
    have h1 := (wgr_2 w).1.mp z
    have h2 := h (w.val - 19) (by have := w.isLt; omega)
    rw [show 19 + (w.val - 19) = w.val by omega, wr_iff.mp hx] at h2
    cases h2
/-- the class: the words -/
theorem gp_j {Q : TA} {t : Nat} {self : Nat → Nat → Int32 → PP Unit} {p2 : Int32} {σ : MM} {P : Unit → MM → Prop} (hS : SC Q t 0 σ) (hp : ptB Q t) (h : wp (gpJ self p2 (c5 (wrT Q (tp Q t))) (if wrT Q (tp Q t) = some (16 : Fin 23) then 1 else 0)) σ P) : wp (GX0_readPart self 25 1 p2) σ P := by
  have hw := SC_w hS
  have hk := SC_k hS
  rw [if_pos rfl] at hw hk
  refine gp_w hw ?_
  have h' := wp_bd (k := fun (v30 : Unit) => (pu () : PP Unit)) (Q := P) h (fun _ τ q => wp_pu q)
  unfold gpR
  rw [jn_eq]
  rcases hp with ⟨j, hj, hp⟩ | hp | hp | hp
  · have e : wrT Q (tp Q t) = some (⟨19 + j, by omega⟩ : Fin 23) := wr_iff.mpr hp
    have e5 : c5 (wrT Q (tp Q t)) = 1 := by
      rw [e]
      show (if _ then _ else _) = _
      rw [if_pos ((wgr_2 _).1.mpr (by show 19 ≤ 19 + j; omega))]
    rw [e5] at h' ⊢
    rw [if_neg (by decide)]
    exact h'
  · have e : wrT Q (tp Q t) = some (16 : Fin 23) := wr_iff.mpr hp
    rw [e] at h' ⊢
    rw [show c5 (some (16 : Fin 23)) = 0 by decide +kernel] at h' ⊢
    rw [if_pos rfl] at h' ⊢
    rw [if_pos rfl, if_neg (by decide)]
    exact h'
  · have e : wrT Q (tp Q t) = none := wr_none (by omega)
    rw [e] at h' ⊢
    rw [show c5 none = 0 from rfl] at h' ⊢
    rw [if_neg (show ¬ (none : Option (Fin 23)) = some (16 : Fin 23) by simp)] at h' ⊢
    rw [if_pos rfl, if_pos rfl]
    refine bd_asw (ws_gv hk ?_)
    rw [if_pos (kd_3.mpr hp)]
    exact h'
  · have y3 := (gB_3 hp).1
    have e : wrT Q (tp Q t) = none := wr_none (by omega)
    rw [e] at h' ⊢
    rw [show c5 none = 0 from rfl] at h' ⊢
    rw [if_neg (show ¬ (none : Option (Fin 23)) = some (16 : Fin 23) by simp)] at h' ⊢
    rw [if_pos rfl, if_pos rfl]
    refine bd_asw (ws_gv hk ?_)
    rw [if_neg (fun q => by have := kd_3.mp q; omega)]
    refine bd_asw (ws_gv hk ?_)
    rw [if_pos ((kd_iff (by decide) (by decide) (by decide) (by decide)).mpr (gB_3 hp))]
    exact h'
/-- nothing of a part: both fail -/
theorem gp_n {Q : TA} {t E : Nat} {self : Nat → Nat → Int32 → PP Unit} {p2 : Int32} {σ : MM} (hE : E < 20000) (hS : SC Q t E σ) (hp : E = 0 → ¬ ptB Q t) : wp (GX0_readPart self 25 1 p2) σ (fun _ τ => SC Q t (fE Q 1 t E) τ ∧ FT σ τ) := by
  have hw := SC_w hS
  have hk := SC_k hS
  have c0 : c5 (if E = 0 then wrT Q (tp Q t) else none) = 0 ∧ ¬ (if E = 0 then wrT Q (tp Q t) else none) = some (16 : Fin 23) ∧ ¬ (if E = 0 then kdT Q (tp Q t) else 0) = 3 ∧ ¬ (if E = 0 then kdT Q (tp Q t) else 0) = 40 := by
    by_cases e0 : E = 0
    · rw [if_pos e0, if_pos e0]
      have hp := hp e0
      unfold ptB at hp
      refine ⟨c5_0 (fun j hj => ?_), fun q => ?_, fun q => ?_, fun q => ?_⟩
      · cases q : wB Q (19 + j) t with
        | false => rfl
        | true => exact absurd (Or.inl ⟨j, hj, q⟩) hp
      · exact hp (Or.inr (Or.inl (wr_iff.mp q)))
      · exact hp (Or.inr (Or.inr (Or.inl (kd_3.mp q))))
      · refine hp (Or.inr (Or.inr (Or.inr ?_)))
        have := (kd_iff (by decide) (by decide) (by decide) (by decide)).mp q
        unfold gB
        simp [this]
    · rw [if_neg e0, if_neg e0]
      exact ⟨rfl, by simp, by decide, by decide⟩
  obtain ⟨q1, q2, q3, q4⟩ := c0
  refine gp_w hw ?_
  unfold gpR
  rw [jn_eq, q1, if_neg q2, if_pos rfl, if_pos rfl]
  refine bd_asw (ws_gv hk ?_)
  rw [if_neg q3]
  refine bd_asw (ws_gv hk ?_)
  rw [if_neg q4]
  refine bd_asw (wp_bd (c_fail (k := 1) (by decide) hE hS) (fun _ τ q => ?_))
  exact wp_eq (show pu () τ = some ((), τ) from rfl) (wp_pu q)
/-- the model: what is asked first -/
noncomputable def gmT (self : Nat → Int32 → PP Unit) (p1 v4 x5 : Int32) : PP Unit := bd (FX12_hasWord 249 (16 : Int32)) (fun x14 => bd (if ((b2i x14)) = 0 then bd (FX12_hasSign 249 (40 : Int32)) (fun x15 => if ((b2i x15)) = 0 then bd (if v4 = 0 then pu (2 : Int32) else pu (1 : Int32) : PP (Int32)) (fun (v16 : Int32) => bd (if v4 = 0 then pu x5 else bd (gI 249 7) (fun x17 => bd (aL (rf 249 6) 1002 x17) (fun x18 => pu x18.toInt32)) : PP (Int32)) (fun (v19 : Int32) => bd (FX12_emit 249 v16 v19) (fun (_ : Unit) => bd (gI 249 7) (fun x21 => bd (sI 249 7 (x21 + (1 : Int32))) (fun (_ : Unit) => pu ()))))) else bd (FX12_whole self 249 (p1 + (1 : Int32))) (fun (_ : Unit) => bd (FX12_takeSign 249 (41 : Int32)) (fun (_ : Unit) => pu ()))) else bd (self 249 (p1 + (1 : Int32))) (fun (_ : Unit) => bd (FX12_emit 249 (3 : Int32) (0 : Int32)) (fun (_ : Unit) => pu ())) : PP (Unit)) (fun (v26 : Unit) => pu ()))
theorem wh_none {Q : TA} {f t n : Nat} (hn : n < 100) (h : ∀ j, j < n → wB Q (f + j) t = false) : whF Q 0 f t n = -1 := by
  rcases wh_cs Q 0 f t n hn with ⟨h1, -⟩ | ⟨k, h1, h2, -⟩
  · exact h1
  · rw [h k h1] at h2
    cases h2
theorem wh_some {Q : TA} {f t n j : Nat} (hn : n < 100) (hf : f + n ≤ 23) (hj : j < n) (h : wB Q (f + j) t = true) : whF Q 0 f t n = nI j := by
  rcases wh_cs Q 0 f t n hn with ⟨-, h2⟩ | ⟨k, h1, h2, h3⟩
  · have := h2 j hj
    rw [h] at this
    cases this
  · have h2' : wB Q (f + k) t = true := by simpa using h2
    have : f + k = f + j := by
      apply Classical.byContradiction
      intro n
      rw [wB_x (by omega) (by omega) h2' n] at h
      cases h
    rw [h3, show k = j by omega]
/-- the model: nothing of a part -/
theorem gm_n {Q : TA} {m t E : Nat} {self : Nat → Int32 → PP Unit} {p1 : Int32} {σ : MM} (vQ : VTa Q) (hE : E < 20000) (hS : SM Q m t E σ) (hp : E = 0 → ¬ ptB Q t) : wp (GX12_takePart self 249 p1) σ (fun _ τ => SM Q m t (fE Q 1 t E) τ ∧ eqr Rat σ τ) := by
  obtain ⟨hm1, hm2⟩ := SM_m vQ hS
  obtain ⟨l1, l2, l3⟩ := hS.1.2.2.2 t hS.2.2.1
  have y4 := yT_4 (Q := Q) (i := tp Q t)
  unfold GX12_takePart
  rw [r249_4, r249_6]
  refine ws_gv hS.2.2.2.2 ?_
  by_cases e0 : E = 0
  · subst e0
    have hp := hp rfl
    rw [if_pos (show nI 0 ≤ 0 by decide)]
    refine ws_gv hS.2.2.2.1 (ws_a (by omega) (by decide) l1 ?_)
    rw [if_neg (show ¬ nI (yT Q (tp Q t)) = 2 from fun q => hp (Or.inr (Or.inr (Or.inl ((nI_eq (b := 2) (by omega) (by decide)).mp q)))))]
    refine wp_eq (show pu (0 : Int32) σ = some (_, σ) from rfl) ?_
    refine wp_eq (m_wordHere (f := 19) (n := 4) vQ hE (by decide) hS) ?_
    rw [wh_none (by decide) (fun j hj => by
      cases q : wB Q (19 + j) t with
      | false => rfl
      | true => exact absurd (Or.inl ⟨j, hj, q⟩) hp), jn_eq, if_neg (by decide), if_pos rfl]
    refine bd_asw (wp_eq (m_isSign vQ hE hS 40) ?_)
    have g0 : gB Q 40 t = false := by
      cases q : gB Q 40 t with
      | false => rfl
      | true => exact absurd (Or.inr (Or.inr (Or.inr q))) hp
    have w0 : wB Q 16 t = false := by
      cases q : wB Q 16 t with
      | false => rfl
      | true => exact absurd (Or.inr (Or.inl q)) hp
    rw [g0, if_pos (show b2i (decide ((0 : Nat) = 0) && false) = 0 from rfl)]
    refine bd_asw (wp_eq (m_isWord (k := 16) vQ hE (by decide) hS) ?_)
    rw [w0, if_pos (show b2i (decide ((0 : Nat) = 0) && false) = 0 from rfl)]
    refine bd_asw (wp_bd (m_wrong (k := 1) vQ hE hS) (fun _ τ q => ?_))
    refine wp_eq (show pu () τ = some ((), τ) from rfl) (ws_gv q.1.2.2.2.2 ?_)
    have hf : fE Q 1 t 0 = fc Q 1 t := rfl
    rw [if_neg (by rw [hf]; exact nI_nle (by have := fc_ne (Q := Q) (k := 1) (t := t) (by decide); omega) (by have := fc_lt (t := t) vQ (show 1 < 10 by decide); omega))]
    exact wp_pu q
  · rw [if_neg (nI_nle (by omega) (by omega))]
    have : fE Q 1 t E = E := by unfold fE; rw [if_neg e0]
    rw [this]
    exact wp_pu ⟨hS, eqr_rf⟩
/-- the model: a part begins -/
theorem gm_j {Q : TA} {m t d : Nat} {self : Nat → Int32 → PP Unit} {σ : MM} {P : Unit → MM → Prop} (vQ : VTa Q) (hd : d ≤ 5) (hS : SM Q m t 0 σ) (hp : ptB Q t) (hf : d = 5 → ∀ τ, SM Q m t (fc Q 5 t) τ → eqr Rat σ τ → P () τ) (h : ¬ d = 5 → wp (gmT self (nI d) (if yT Q (tp Q t) = 2 then 1 else 0) (whF Q 0 19 t 4)) σ P) : wp (GX12_takePart self 249 (nI d)) σ P := by
  obtain ⟨hm1, hm2⟩ := SM_m vQ hS
  obtain ⟨l1, l2, l3⟩ := hS.1.2.2.2 t hS.2.2.1
  have y4 := yT_4 (Q := Q) (i := tp Q t)
  unfold GX12_takePart
  rw [r249_4]
  refine ws_gv hS.2.2.2.2 ?_
  rw [if_pos (show nI 0 ≤ 0 by decide)]
  refine ws_gv hS.2.2.2.1 (ws_a (by omega) (by decide) l1 ?_)
  have hJ : ∀ v4 x5 : Int32, v4 = (if yT Q (tp Q t) = 2 then 1 else 0) → x5 = whF Q 0 19 t 4 → wp (bd (if nI d = (5 : Int32) then bd (FX12_wrong 249 (5 : Int32)) (fun (_ : Unit) => pu ()) else pu () : PP Unit) (fun (v12 : Unit) => bd (gI 249 8) (fun x13 => if x13 ≤ 0 then gmT self (nI d) v4 x5 else pu ()))) σ P := by
    intro v4 x5 e4 e5
    by_cases z : d = 5
    · rw [if_pos (by rw [z]; rfl)]
      refine bd_asw (wp_bd (m_wrong (k := 5) vQ (by decide) hS) (fun _ τ q => ?_))
      refine wp_eq (show pu () τ = some ((), τ) from rfl) (ws_gv q.1.2.2.2.2 ?_)
      have hf5 : fE Q 5 t 0 = fc Q 5 t := rfl
      rw [if_neg (by rw [hf5]; exact nI_nle (by have := fc_ne (Q := Q) (k := 5) (t := t) (by decide); omega) (by have := fc_lt (t := t) vQ (show 5 < 10 by decide); omega))]
      exact wp_pu (hf z τ q.1 q.2)
    · rw [if_neg (show ¬ nI d = 5 from fun q => z ((nI_eq (b := 5) (by omega) (by decide)).mp q))]
      refine wp_eq (show pu () σ = some ((), σ) from rfl) (ws_gv hS.2.2.2.2 ?_)
      rw [if_pos (show nI 0 ≤ 0 by decide), e4, e5]
      exact h z
  have ewh := m_wordHere (f := 19) (n := 4) vQ (show 0 < 20000 by decide) (by decide) hS
  by_cases y2 : yT Q (tp Q t) = 2
  · rw [if_pos (show nI (yT Q (tp Q t)) = 2 by rw [y2]; rfl)]
    refine wp_eq (show pu (1 : Int32) σ = some (_, σ) from rfl) (wp_eq ewh ?_)
    have h1 := hJ 1 _ (by rw [if_pos y2]) rfl
    rw [jn_eq]
    by_cases z : 0 ≤ whF Q 0 19 t 4
    · rw [if_pos z]; exact h1
    · rw [if_neg z, if_neg (by decide)]; exact h1
  · rw [if_neg (show ¬ nI (yT Q (tp Q t)) = 2 from fun q => y2 ((nI_eq (b := 2) (by omega) (by decide)).mp q))]
    refine wp_eq (show pu (0 : Int32) σ = some (_, σ) from rfl) (wp_eq ewh ?_)
    have h1 := hJ 0 _ (by rw [if_neg y2]) rfl
    rw [jn_eq]
    by_cases z : 0 ≤ whF Q 0 19 t 4
    · rw [if_pos z]; exact h1
    · rw [if_neg z, if_pos rfl]
      refine bd_asw (wp_eq (m_isSign vQ (by decide) hS 40) ?_)
      by_cases g : gB Q 40 t = true
      · rw [g, if_neg (show ¬ b2i (decide ((0 : Nat) = 0) && true) = 0 by decide)]
        exact h1
      · rw [if_pos (by rw [show gB Q 40 t = false by simpa using g]; rfl)]
        refine bd_asw (wp_eq (m_isWord (k := 16) vQ (by decide) (by decide) hS) ?_)
        have w1 : wB Q 16 t = true := by
          rcases hp with ⟨j, hj, hp⟩ | hp | hp | hp
          · rw [wh_some (by decide) (by decide) hj hp] at z
            exact absurd (nI_pos' (by omega)) z
          · exact hp
          · exact absurd hp y2
          · exact absurd hp g
        rw [w1, if_neg (show ¬ b2i (decide ((0 : Nat) = 0) && true) = 0 by decide)]
        exact h1
