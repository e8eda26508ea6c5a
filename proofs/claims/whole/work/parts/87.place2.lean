/-! ===== a place told ===== -/
noncomputable def plJ (s5 : Int32) : PP (Int32 ⊕ Int32) := bd (FX12_toldHere 249 (1 : Int32) (0 : Int32)) (fun x11 => bd (gI 249 8) (fun x12 => bd (if x12 = 0 then if ((s5 >>> (x11 &&& 31)) &&& (1 : Int32)) = (1 : Int32) then bd (FX12_wrong 249 (3 : Int32)) (fun (_ : Unit) => pu ()) else pu () else pu () : PP (Unit)) (fun (v14 : Unit) => bd (gI 249 8) (fun x15 => bd (if x15 ≤ 0 then pu ((1 : Int32) <<< (x11 &&& 31)) else pu (0 : Int32) : PP (Int32)) (fun (v16 : Int32) => lt (s5 ||| v16) (fun y17 => bd (gI 249 7) (fun x18 => bd (gI 249 8) (fun x19 => bd (if x19 ≤ 0 then pu (1 : Int32) else pu (0 : Int32) : PP (Int32)) (fun (v20 : Int32) => bd (sI 249 7 (x18 + v20)) (fun (_ : Unit) => pu (Sum.inl y17)))))))))))
noncomputable def plM (s5 : Int32) : PP (Int32 ⊕ Int32) := bd (gI 249 8) (fun x6 => if x6 = 0 then jn (fun (v10 : Unit) => plJ s5) (fun j7 => if s5 = 0 then j7 () else bd (gI 249 7) (fun x8 => bd (aI 251 1002 x8) (fun x9 => if x9 = (1 : Int32) then j7 () else pu (Sum.inr s5)))) else pu (Sum.inr s5))
noncomputable def plC (s7 : Int32 × Int32) : PP ((Int32 × Int32) ⊕ Int32) := if (5 : Int32) ≤ s7.2 then pu (Sum.inr s7.1) else bd (FX5_isName 1) (fun x8 => if ((b2i x8)) = 0 then pu (Sum.inr s7.1) else bd (FX8_lineOutside 15 s7.1) (fun x9 => lt (s7.1 ||| x9) (fun y10 => lt (s7.2 + (1 : Int32)) (fun y11 => pu (Sum.inl (y10, y11))))))
theorem m_plJ {Q : TA} {T T2 : TW} {N N2 : NM} {b : Bool} {m t H : Nat} {L : Option Nat × Nat} {R : Nat × Nat × Nat} {σ : MM} (vQ : VTa Q) (hend : yT Q (tp Q m) = 0) (hV : DV T N b) (hT2 : T2.1 0 = T.1 0 ∧ N2 0 = N 0 ∧ T2.1 1 ≤ 4 ∧ T2.1 2 ≤ 6 ∧ VNa T2 N2) (hH : H < 32) (hS : SM Q m t 0 σ) (hN : MNb 259 261 19 T2 N2 σ) (hL : lk Q (N 0) (T.1 0) t 0 L) (hR : lo Q T t H L R) : wp (plJ (nI H)) σ (fun r τ => r = .inl (nI R.2.2) ∧ SM Q m R.1 R.2.1 τ ∧ eqr Rat σ τ) := by
  have h5 := hV.1.1.1
  unfold plJ
  obtain ⟨l1, l2, l3⟩ := lk_E vQ (by decide) hL
  refine wp_bd (m_toldHere (T := T2) (N := N2) (R := L) (p := 1) (r0 := 0) vQ (by decide) (Or.inl rfl) (by decide) (by rw [hT2.1]; exact h5) hT2.2.2.1 hT2.2.2.2.1 hT2.2.2.2.2 hS hN (by rw [hT2.1, hT2.2.1]; exact hL)) ?_
  rintro x τ ⟨rfl, s1, f1⟩
  have dead : ∀ (E2 : Nat) (τ2 : MM), ¬ E2 = 0 → E2 < 20000 → R = (t, E2, H) → SM Q m t E2 τ2 → eqr Rat τ τ2 → wp (bd (gI 249 8) (fun x15 => bd (if x15 ≤ 0 then pu ((1 : Int32) <<< (oI L.1 0 &&& 31)) else pu (0 : Int32) : PP (Int32)) (fun (v16 : Int32) => lt (nI H ||| v16) (fun y17 => bd (gI 249 7) (fun x18 => bd (gI 249 8) (fun x19 => bd (if x19 ≤ 0 then pu (1 : Int32) else pu (0 : Int32) : PP (Int32)) (fun (v20 : Int32) => bd (sI 249 7 (x18 + v20)) (fun (_ : Unit) => (pu (Sum.inl y17) : PP (Int32 ⊕ Int32)))))))))) τ2 (fun r τ => r = .inl (nI R.2.2) ∧ SM Q m R.1 R.2.1 τ ∧ eqr Rat σ τ) := by
    intro E2 τ2 n0 hl hR2 s f
    refine ws_gv s.2.2.2.2 ?_
    rw [if_neg (nI_nle (by omega) (by omega))]
    refine wp_eq (show pu (0 : Int32) τ2 = some (_, τ2) from rfl) ?_
    rw [lt_eq]
    refine m_on hl s (fun z => absurd z n0) (fun τ3 s3 f3 => wp_pu ?_)
    have en : nx t E2 = t := by unfold nx; rw [if_neg n0]
    rw [en] at s3
    rw [hR2]
    refine ⟨?_, s3, eqr_tr f1 (eqr_tr f f3)⟩
    show Sum.inl (nI H ||| 0) = Sum.inl (nI H)
    simp
  refine ws_gv s1.2.2.2.2 ?_
  rcases hR with ⟨h1, rfl⟩ | ⟨i, h1, hi, hR⟩
  · have n0 := l2.mp h1
    rw [if_neg (nI_ne0 (by omega) (by omega))]
    exact wp_eq (show pu () τ = some ((), τ) from rfl) (dead L.2 τ n0 l1 rfl s1 eqr_rf)
  · have e0 : L.2 = 0 := (lk_s hL h1).2
    rw [e0] at s1 ⊢
    rw [if_pos (show nI 0 = 0 from rfl)]
    rw [h1, show oI (some i) 0 = nI i from rfl]
    rw [h1, show oI (some i) 0 = nI i from rfl] at dead
    rcases hR with ⟨z, hR⟩ | ⟨z, hR⟩
    · rw [if_pos ((bt5 H hH i (by omega)).1.mpr z)]
      refine bd_asw (wp_bd (m_wrong (k := 3) vQ (by decide) s1) (fun _ τ2 q => ?_))
      exact wp_eq (show pu () τ2 = some ((), τ2) from rfl) (dead _ τ2 (fc_ne (by decide)) (fc_lt vQ (by decide)) hR q.1 q.2)
    · rw [if_neg (fun q => z ((bt5 H hH i (by omega)).1.mp q))]
      refine wp_eq (show pu () τ = some ((), τ) from rfl) (ws_gv s1.2.2.2.2 ?_)
      rw [if_pos (show nI 0 ≤ 0 by decide)]
      refine wp_eq (show pu _ τ = some (_, τ) from rfl) ?_
      rw [lt_eq, (bt5 H hH i (by omega)).2.1]
      refine m_on (by decide) s1 (fun _ => by rw [lk_y hL e0 (fun _ _ => trivial)]; decide) (fun τ3 s3 f3 => wp_pu ?_)
      rw [hR]
      exact ⟨rfl, s3, eqr_tr f1 f3⟩
theorem pl_aux {Q : TA} {T T2 : TW} {N N2 : NM} {b : Bool} {m : Nat} (vQ : VTa Q) (hm : m ≤ 1000) (hend : yT Q (tp Q m) = 0) (hV : DV T N b) (hT2 : T2.1 0 = T.1 0 ∧ N2 0 = N 0 ∧ T2.1 1 ≤ 4 ∧ T2.1 2 ≤ 6 ∧ VNa T2 N2)
    (cD : ∀ (t E H c F : Nat) (σ : MM), ¬ E = 0 → 0 < F → SC Q t E σ → c ≤ 11 → wp (it plC F (nI H, nI c)) σ (fun x τ => x = nI H ∧ SC Q t E τ ∧ FT σ τ))
    (mD : ∀ (t E H F : Nat) (σ : MM), ¬ E = 0 → E < 20000 → 0 < F → SM Q m t E σ → wp (it plM F (nI H)) σ (fun x τ => x = nI H ∧ SM Q m t E τ ∧ eqr Rat σ τ))
    (r : Nat) (ih : ∀ (t E H c : Nat), E < 20000 → t ≤ m → H < 32 → (E = 0 → ¬ H = 0 ∧ c + 1 ≤ pc5 H) → c ≤ 10 → 5 + 1 ≤ r + pc5 H → ∃ (t' Ec Em H' : Nat), (Ec < 20000 ∧ Em < 20000 ∧ t ≤ t' ∧ t' ≤ m ∧ st1 Q (gB Q 59 t') 1 t' Ec = st1 Q (gB Q 59 t') 1 t' Em ∧ (Ec = 0 → E = 0)) ∧ (∀ σ F, r < F → SC Q t E σ → CNb 17 T N σ → σ.1 16 9 = nI (T.1 0) → wp (it plC F (nI H, nI c)) σ (fun x τ => x = nI H' ∧ SC Q t' Ec τ ∧ FT σ τ)) ∧ ∀ σ F, r < F → SM Q m t E σ → (E = 0 → MNb 259 261 19 T2 N2 σ) → wp (it plM F (nI H)) σ (fun x τ => x = nI H' ∧ SM Q m t' Em τ ∧ eqr Rat σ τ)) :
    ∀ (t E H c : Nat), E < 20000 → t ≤ m → H < 32 → (E = 0 → ¬ H = 0 ∧ c + 1 ≤ pc5 H) → c ≤ 10 → 5 ≤ r + pc5 H → ∃ (t' Ec Em H' : Nat), (Ec < 20000 ∧ Em < 20000 ∧ t ≤ t' ∧ t' ≤ m ∧ st1 Q (gB Q 59 t') 1 t' Ec = st1 Q (gB Q 59 t') 1 t' Em ∧ (Ec = 0 → E = 0)) ∧ (∀ σ F, r + 1 < F → SC Q t E σ → CNb 17 T N σ → σ.1 16 9 = nI (T.1 0) → wp (it plC F (nI H, nI c)) σ (fun x τ => x = nI H' ∧ SC Q t' Ec τ ∧ FT σ τ)) ∧ ∀ σ F, r + 1 < F → SM Q m t E σ → (E = 0 → MNb 259 261 19 T2 N2 σ) → wp (it plM F (nI H)) σ (fun x τ => x = nI H' ∧ SM Q m t' Em τ ∧ eqr Rat σ τ) := by
  have h5 := hV.1.1.1
  intro t E H c hE ht hH hA hc hr
  by_cases e0 : E = 0
  · subst e0
    obtain ⟨hH0, hcp⟩ := hA rfl
    have hp5 := (bt5 H hH 0 (by decide)).2.2.2.2.2
    have hc5 : ¬ (5 : Int32) ≤ nI c := nle_n (b := 5) (by omega) (by decide)
    have hHn : ¬ nI H = 0 := nI_ne0 (by omega) (by omega)
    have y4 := yT_4 (Q := Q) (i := tp Q t)
    by_cases hn : nmB Q t = true
    · obtain ⟨L, hL⟩ := lk_ex Q (N 0) (T.1 0) t 0
      obtain ⟨R, hR⟩ := lo_ex (H := H) hL
      obtain ⟨u1, u2, u3, u4, u5, u6⟩ := lo_m vQ hend ht (by decide) h5 hH hL hR
      have hy := nm_1 hn
      have cS : ∀ (σ : MM) (F : Nat) (P : Int32 → MM → Prop), SC Q t 0 σ → CNb 17 T N σ → σ.1 16 9 = nI (T.1 0) → (∀ τ, SC Q R.1 R.2.1 τ → FT σ τ → wp (it plC F (nI R.2.2, nI (c + 1))) τ P) → wp (it plC (F + 1) (nI H, nI c)) σ P := by
        intro σ F P s hN e9 h
        refine it_s ?_
        unfold plC
        rw [if_neg hc5]
        refine wp_eq (c_isName s) ?_
        rw [hn, if_neg (show ¬ b2i (decide ((0 : Nat) = 0) && true) = 0 by decide)]
        refine wp_bd (c_lineOutside vQ hV (by decide) hH s hN e9 hL hR) ?_
        rintro x τ ⟨hx, -, s2, f2⟩
        rw [lt_eq, lt_eq, hx, nI_1]
        exact wp_pu (Or.inl ⟨_, rfl, h τ s2 f2⟩)
      have mS : ∀ (σ : MM) (F : Nat) (P : Int32 → MM → Prop), SM Q m t 0 σ → MNb 259 261 19 T2 N2 σ → (∀ τ, SM Q m R.1 R.2.1 τ → eqr Rat σ τ → wp (it plM F (nI R.2.2)) τ P) → wp (it plM (F + 1) (nI H)) σ P := by
        intro σ F P s hN h
        obtain ⟨hm1, hm2⟩ := SM_m vQ s
        refine it_s ?_
        unfold plM
        refine ws_gv s.2.2.2.2 ?_
        rw [if_pos (show nI 0 = 0 from rfl), jn_eq, if_neg hHn]
        refine ws_gv s.2.2.2.1 (ws_a (by omega) (by decide) (s.1.2.2.2 t ht).1 ?_)
        rw [if_pos (show nI (yT Q (tp Q t)) = 1 by rw [hy]; rfl)]
        refine wp_mono (m_plJ vQ hend hV hT2 hH s hN hL hR) ?_
        rintro x τ ⟨rfl, s2, f2⟩
        exact Or.inl ⟨_, rfl, h τ s2 f2⟩
      by_cases z : R.2.1 = 0
      · obtain ⟨-, k2, i, k3, k4, k5, k6⟩ := u5 z
        have hb := bt5 H hH i (by omega)
        have e2 : R.2.2 = orB H i := by rw [k6]
        obtain ⟨t', Ec, Em, H', ⟨p1, p2, p3, p4, p5, p6⟩, pC, pM⟩ := ih R.1 R.2.1 R.2.2 (c + 1) u3 u1 u4 (fun _ => ⟨by rw [e2]; exact hb.2.2.2.2.1, by rw [e2, hb.2.2.2.1 k5]; omega⟩) (by omega) (by rw [e2, hb.2.2.2.1 k5]; omega)
        refine ⟨t', Ec, Em, H', ⟨p1, p2, by omega, p4, p5, fun _ => rfl⟩, fun σ F hF s hN e9 => ?_, fun σ F hF s hN => ?_⟩
        · cases F with
          | zero => omega
          | succ F =>
            refine cS σ F _ s hN e9 (fun τ s2 f2 => ?_)
            refine wp_mono (pC τ F (by omega) s2 (fun r hr i hi => (f2.2.2 _ _ (by omega)).trans (hN r hr i hi)) ((f2.1 _ _ (by decide)).trans e9)) (fun x υ q => ⟨q.1, q.2.1, FT_tr f2 q.2.2⟩)
        · cases F with
          | zero => omega
          | succ F =>
            refine mS σ F _ s (hN rfl) (fun τ s2 f2 => ?_)
            refine wp_mono (pM τ F (by omega) s2 (fun _ => MNb_a f2 (fun q => by unfold Rat at q; omega) (fun j q => by unfold Rat at q; omega) (hN rfl))) (fun x υ q => ⟨q.1, q.2.1, eqr_tr f2 q.2.2⟩)
      · obtain ⟨k1, k2⟩ := u6 z
        refine ⟨R.1, R.2.1, R.2.1, H, ⟨u3, u3, u2, u1, rfl, fun q => absurd q z⟩, fun σ F hF s hN e9 => ?_, fun σ F hF s hN => ?_⟩
        · cases F with
          | zero => omega
          | succ F =>
            refine cS σ F _ s hN e9 (fun τ s2 f2 => ?_)
            rw [k1]
            exact wp_mono (cD R.1 R.2.1 H (c + 1) F τ z (by omega) s2 (by omega)) (fun x υ q => ⟨q.1, q.2.1, FT_tr f2 q.2.2⟩)
        · cases F with
          | zero => omega
          | succ F =>
            refine mS σ F _ s (hN rfl) (fun τ s2 f2 => ?_)
            rw [k1]
            exact wp_mono (mD R.1 R.2.1 H F τ z u3 (by omega) s2) (fun x υ q => ⟨q.1, q.2.1, eqr_tr f2 q.2.2⟩)
    · have hn : nmB Q t = false := by simpa using hn
      have cS : ∀ (σ : MM) (F : Nat), 0 < F → SC Q t 0 σ → wp (it plC F (nI H, nI c)) σ (fun x τ => x = nI H ∧ SC Q t 0 τ ∧ FT σ τ) := by
        intro σ F hF s
        cases F with
        | zero => omega
        | succ F =>
          refine it_s ?_
          unfold plC
          rw [if_neg hc5]
          refine wp_eq (c_isName s) ?_
          rw [hn, if_pos (show b2i (decide ((0 : Nat) = 0) && false) = 0 from rfl)]
          exact wp_pu (Or.inr ⟨_, rfl, rfl, s, FT_rf⟩)
      by_cases hy : yT Q (tp Q t) = 1
      · have n1 := fc_ne (Q := Q) (k := 1) (t := t) (by decide)
        have l1 := fc_lt (t := t) vQ (show 1 < 10 by decide)
        have hL : lk Q (N 0) (T.1 0) t 0 (none, fc Q 1 t) := Or.inr (Or.inl ⟨rfl, rfl, hn⟩)
        have hR : lo Q T t H (none, fc Q 1 t) (t, fc Q 1 t, H) := Or.inl ⟨rfl, rfl⟩
        refine ⟨t, 0, fc Q 1 t, H, ⟨by decide, l1, Nat.le_refl t, ht, ?_, fun _ => rfl⟩, fun σ F hF s hN e9 => cS σ F (by omega) s, fun σ F hF s hN => ?_⟩
        · rw [gB_no (by omega), st1_f, st1_d n1]
        · cases F with
          | zero => omega
          | succ F =>
            obtain ⟨hm1, hm2⟩ := SM_m vQ s
            refine it_s ?_
            show wp (plM (nI H)) σ _
            unfold plM
            refine ws_gv s.2.2.2.2 ?_
            rw [if_pos (show nI 0 = 0 from rfl), jn_eq, if_neg hHn]
            refine ws_gv s.2.2.2.1 (ws_a (by omega) (by decide) (s.1.2.2.2 t ht).1 ?_)
            rw [if_pos (show nI (yT Q (tp Q t)) = 1 by rw [hy]; rfl)]
            refine wp_mono (m_plJ vQ hend hV hT2 hH s (hN rfl) hL hR) ?_
            rintro x τ ⟨rfl, s2, f2⟩
            refine Or.inl ⟨_, rfl, ?_⟩
            exact wp_mono (mD t (fc Q 1 t) H F τ n1 l1 (by omega) s2) (fun x υ q => ⟨q.1, q.2.1, eqr_tr f2 q.2.2⟩)
      · refine ⟨t, 0, 0, H, ⟨by decide, by decide, Nat.le_refl t, ht, rfl, fun _ => rfl⟩, fun σ F hF s hN e9 => cS σ F (by omega) s, fun σ F hF s hN => ?_⟩
        cases F with
        | zero => omega
        | succ F =>
          obtain ⟨hm1, hm2⟩ := SM_m vQ s
          refine it_s ?_
          show wp (plM (nI H)) σ _
          unfold plM
          refine ws_gv s.2.2.2.2 ?_
          rw [if_pos (show nI 0 = 0 from rfl), jn_eq, if_neg hHn]
          refine ws_gv s.2.2.2.1 (ws_a (by omega) (by decide) (s.1.2.2.2 t ht).1 ?_)
          rw [if_neg (show ¬ nI (yT Q (tp Q t)) = 1 from fun q => hy ((nI_eq (b := 1) (by omega) (by decide)).mp q))]
          exact wp_pu (Or.inr ⟨_, rfl, rfl, s, eqr_rf⟩)
  · exact ⟨t, E, E, H, ⟨hE, hE, Nat.le_refl t, ht, rfl, fun q => q⟩, fun σ F hF s hN e9 => cD t E H c F σ e0 (by omega) s (by omega), fun σ F hF s hN => mD t E H F σ e0 hE (by omega) s⟩
/-- the lines under which a place lies, but the first -/
theorem pl_loop {Q : TA} {T T2 : TW} {N N2 : NM} {b : Bool} {m : Nat} (vQ : VTa Q) (hm : m ≤ 1000) (hend : yT Q (tp Q m) = 0) (hV : DV T N b) (hT2 : T2.1 0 = T.1 0 ∧ N2 0 = N 0 ∧ T2.1 1 ≤ 4 ∧ T2.1 2 ≤ 6 ∧ VNa T2 N2) : ∀ (r t E H c : Nat), E < 20000 → t ≤ m → H < 32 → (E = 0 → ¬ H = 0 ∧ c + 1 ≤ pc5 H) → c ≤ 10 → 5 ≤ r + pc5 H → ∃ (t' Ec Em H' : Nat), (Ec < 20000 ∧ Em < 20000 ∧ t ≤ t' ∧ t' ≤ m ∧ st1 Q (gB Q 59 t') 1 t' Ec = st1 Q (gB Q 59 t') 1 t' Em ∧ (Ec = 0 → E = 0)) ∧ (∀ σ F, r + 1 < F → SC Q t E σ → CNb 17 T N σ → σ.1 16 9 = nI (T.1 0) → wp (it plC F (nI H, nI c)) σ (fun x τ => x = nI H' ∧ SC Q t' Ec τ ∧ FT σ τ)) ∧ ∀ σ F, r + 1 < F → SM Q m t E σ → (E = 0 → MNb 259 261 19 T2 N2 σ) → wp (it plM F (nI H)) σ (fun x τ => x = nI H' ∧ SM Q m t' Em τ ∧ eqr Rat σ τ) := by
  have h5 := hV.1.1.1
  -- dead: both stop
  have cD : ∀ (t E H c F : Nat) (σ : MM), ¬ E = 0 → 0 < F → SC Q t E σ → c ≤ 11 → wp (it plC F (nI H, nI c)) σ (fun x τ => x = nI H ∧ SC Q t E τ ∧ FT σ τ) := by
    intro t E H c F σ n0 hF s hc
    cases F with
    | zero => omega
    | succ F =>
      refine it_s ?_
      unfold plC
      by_cases z : (5 : Int32) ≤ nI c
      · rw [if_pos z]
        exact wp_pu (Or.inr ⟨_, rfl, rfl, s, FT_rf⟩)
      · rw [if_neg z]
        refine wp_eq (c_isName s) ?_
        rw [if_pos (by simp [n0, b2i])]
        exact wp_pu (Or.inr ⟨_, rfl, rfl, s, FT_rf⟩)
  have mD : ∀ (t E H F : Nat) (σ : MM), ¬ E = 0 → E < 20000 → 0 < F → SM Q m t E σ → wp (it plM F (nI H)) σ (fun x τ => x = nI H ∧ SM Q m t E τ ∧ eqr Rat σ τ) := by
    intro t E H F σ n0 hl hF s
    cases F with
    | zero => omega
    | succ F =>
      refine it_s ?_
      unfold plM
      refine ws_gv s.2.2.2.2 ?_
      rw [if_neg (nI_ne0 (by omega) (by omega))]
      exact wp_pu (Or.inr ⟨_, rfl, rfl, s, eqr_rf⟩)
  intro r
  induction r with
  | zero =>
    intro t E H c hE ht hH hA hc hr
    exact pl_aux vQ hm hend hV hT2 cD mD 0 (fun t E H c _ _ h _ _ h2 => absurd h2 (by have := (bt5 H h 0 (by decide)).2.2.2.2.2; omega)) t E H c hE ht hH hA hc hr
  | succ r ih =>
    intro t E H c hE ht hH hA hc hr
    exact pl_aux vQ hm hend hV hT2 cD mD (r + 1) (fun t E H c a1 a2 a3 a4 a5 a6 => by
      obtain ⟨t', Ec, Em, H', p, pC, pM⟩ := ih t E H c a1 a2 a3 a4 a5 (by omega)
      exact ⟨t', Ec, Em, H', p, fun σ F hF => pC σ F (by omega), fun σ F hF => pM σ F (by omega)⟩) t E H c hE ht hH hA hc hr
