/-! ===== the class's next token ===== -/
theorem ws_sL {β : Type} {a j : Nat} {x : Int64} {k : Unit → PP β} {σ : MM} {P : β → MM → Prop} (h : wp (k ()) (σ.1, up2 σ.2.1 a j x, σ.2.2) P) : wp (bd (sL a j x) k) σ P := wp_eq (show sL a j x σ = some ((), (σ.1, up2 σ.2.1 a j x, σ.2.2)) from rfl) h
theorem ws_sW {β : Type} {w : Option (Fin 23)} {k : Unit → PP β} {σ : MM} {P : β → MM → Prop} (h : wp (k ()) (σ.1, σ.2.1, w) P) : wp (bd (sW w) k) σ P := wp_eq (show sW w σ = some ((), (σ.1, σ.2.1, w)) from rfl) h
theorem ws_gL {β : Type} {a j : Nat} {x : Int64} {k : Int64 → PP β} {σ : MM} {P : β → MM → Prop} (e : σ.2.1 a j = x) (h : wp (k x) σ P) : wp (bd (gL a j) k) σ P := wp_eq (show gL a j σ = some (x, σ) by unfold gL; rw [e]) h
theorem ws_gW {β : Type} {x : Option (Fin 23)} {k : Option (Fin 23) → PP β} {σ : MM} {P : β → MM → Prop} (e : σ.2.2 = x) (h : wp (k x) σ P) : wp (bd gW k) σ P := wp_eq (show gW σ = some (x, σ) by unfold gW; rw [e]) h
/-- only the tape's own cells change, and not its length -/
def FT (σ τ : MM) : Prop := (∀ b j, b ≠ 1 → τ.1 b j = σ.1 b j) ∧ τ.1 1 1 = σ.1 1 1 ∧ ∀ b j, b ≠ 1 → τ.2.1 b j = σ.2.1 b j
theorem FT_rf {σ : MM} : FT σ σ := ⟨fun _ _ _ => rfl, rfl, fun _ _ _ => rfl⟩
theorem FT_tr {σ τ υ : MM} (h1 : FT σ τ) (h2 : FT τ υ) : FT σ υ := ⟨fun b j q => (h2.1 b j q).trans (h1.1 b j q), h2.2.1.trans h1.2.1, fun b j q => (h2.2.2 b j q).trans (h1.2.2 b j q)⟩
theorem FT_i {σ : MM} {j : Nat} {x : Int32} (h : j ≠ 1) : FT σ (up2 σ.1 1 j x, σ.2) := ⟨fun b i q => up2_ne (by omega), up2_ne (by omega), fun _ _ _ => rfl⟩
theorem FT_l {σ : MM} {j : Nat} {x : Int64} : FT σ (σ.1, up2 σ.2.1 1 j x, σ.2.2) := ⟨fun _ _ _ => rfl, rfl, fun b i q => up2L_ne (by omega)⟩
theorem FT_w {σ : MM} {w : Option (Fin 23)} : FT σ (σ.1, σ.2.1, w) := ⟨fun _ _ _ => rfl, rfl, fun _ _ _ => rfl⟩
theorem CTa_f {Q : TA} {σ τ : MM} (h : FT σ τ) (hQ : CTa Q σ) : CTa Q τ := ⟨h.2.1.trans hQ.1, fun i hi => (h.1 2 i (by decide)).trans (hQ.2 i hi)⟩
def kdT (Q : TA) (i : Nat) : Int32 := if yT Q i = 0 then 0 else if yT Q i = 1 then 2 else if yT Q i = 2 then 3 else if yT Q i = 3 then Q.2 (sT Q i) else 1
def wrT (Q : TA) (i : Nat) : Option (Fin 23) := if yT Q i = 1 then wix (wT Q i) else none
/-- the class looks at the token from the place i on -/
def TkC (Q : TA) (i : Nat) (τ : MM) : Prop := τ.1 1 2 = kdT Q i ∧ τ.2.2 = wrT Q i ∧ (yT Q i = 1 → τ.2.1 1 4 = p32 (wT Q i)) ∧ (yT Q i = 2 → τ.1 1 5 = nI (nT Q i)) ∧ τ.1 1 7 = nI (sT Q i) ∧ τ.1 1 8 = nI (eT Q i)
theorem L_step {q : Nat} (h : 97 ≤ q) (h2 : q ≤ 122) : ((nI q - (97 : Int32)) + (1 : Int32)).toInt64 = lN (q - 96) := by
  rw [show (97 : Int32) = nI 97 from rfl, pk_sub h, nI_1, nI_l (by omega)]
  congr 1
  omega
theorem aW_n {i : Nat} (h : i < 23) (σ : MM) : aW (nI i) σ = some (⟨i, h⟩, σ) := by
  unfold aW
  have e : (nI i).toNatClampNeg = i := cl_n (by omega)
  have n0 : ¬ nI i < 0 := nI_pos (by omega)
  simp [e, h, n0]
theorem c_readWord {Q : TA} {σ : MM} {s : Nat} (vQ : VTa Q) (hQ : CTa Q σ) (hs : s < Q.1) (hL : isL (Q.2 s) = true) (h8 : σ.1 1 8 = nI s) (h7 : σ.1 1 7 = nI s) (h4 : σ.2.1 1 4 = 0) (hw : σ.2.2 = none) : wp (FX5_readWord 1) σ (fun _ τ => (τ.1 1 8 = nI (run (fun k => isL (Q.2 k)) s (Q.1 - s)) ∧ τ.1 1 7 = nI s ∧ τ.1 1 6 = σ.1 1 6 ∧ τ.1 1 2 = (if run (fun k => isL (Q.2 k)) s (Q.1 - s) - s ≤ 8 then 2 else 1) ∧ τ.2.2 = (if run (fun k => isL (Q.2 k)) s (Q.1 - s) - s ≤ 8 then wix (wd Q s (run (fun k => isL (Q.2 k)) s (Q.1 - s) - s)) else none) ∧ τ.2.1 1 4 = p32 (wd Q s (run (fun k => isL (Q.2 k)) s (Q.1 - s) - s))) ∧ FT σ τ) := by
  have vn := vQ.1
  obtain ⟨r1, r2⟩ := run_le (p := fun k => isL (Q.2 k)) (Q.1 - s) s
  have rin := run_in (p := fun k => isL (Q.2 k)) (Q.1 - s) s
  have rout := run_out (p := fun k => isL (Q.2 k)) (Q.1 - s) s
  generalize run (fun k => isL (Q.2 k)) s (Q.1 - s) = e at r1 r2 rin rout
  unfold FX5_readWord
  rw [r1_0]
  refine ws_it (fun k _ τ => τ.1 1 8 = nI (s + k) ∧ τ.2.1 1 4 = p32 (wd Q s k) ∧ τ.1 1 7 = nI s ∧ τ.1 1 6 = σ.1 1 6 ∧ τ.2.2 = none ∧ FT σ τ) (e - s) (by omega) ⟨h8, h4, h7, rfl, hw, FT_rf⟩ ?_
  rintro k _ τ hk ⟨k8, k4, k7, k6, kw, hF⟩
  have hQ2 := CTa_f hF hQ
  refine ws_gv k8 (ws_gv hQ2.1 ?_)
  have ext : e = s + k → wp (bd (gI 1 8) (fun x12 => bd (gI 1 7) (fun x13 => if (x12 - x13) ≤ (8 : Int32) then bd (sI 1 2 (2 : Int32)) (fun (_ : Unit) => bd (it (fun (s14 : Int32) => (bd (gW) (fun x15 => if x15 = none then if (23 : Int32) ≤ s14 then pu (Sum.inr ()) else bd (aW s14) (fun x16 => bd (gI 1 7) (fun x17 => bd (gI 1 8) (fun x18 => bd (FX10_standsAt x16 2 x17 x18) (fun x19 => bd (if ((b2i x19)) = 0 then pu none else bd (aW s14) (fun x20 => pu ((some x20))) : PP (Option (Fin 23))) (fun (v21 : Option (Fin 23)) => bd (sW v21) (fun (_ : Unit) => lt (s14 + (1 : Int32)) (fun y22 => pu (Sum.inl y22)))))))) else pu (Sum.inr ())) : PP ((Int32) ⊕ (Unit)))) FU (0 : Int32)) (fun (v23 : Unit) => pu ())) else bd (sI 1 2 (1 : Int32)) (fun (_ : Unit) => pu ())))) τ (fun _ τ => (τ.1 1 8 = nI e ∧ τ.1 1 7 = nI s ∧ τ.1 1 6 = σ.1 1 6 ∧ τ.1 1 2 = (if e - s ≤ 8 then 2 else 1) ∧ τ.2.2 = (if e - s ≤ 8 then wix (wd Q s (e - s)) else none) ∧ τ.2.1 1 4 = p32 (wd Q s (e - s))) ∧ FT σ τ) := by
    intro he
    refine ws_gv k8 (ws_gv k7 ?_)
    rw [pk_sub (by omega), show s + k - s = e - s by omega]
    have k4' : τ.2.1 1 4 = p32 (wd Q s (e - s)) := by rw [k4]; congr 2; omega
    have k8' : τ.1 1 8 = nI e := by rw [k8, he]
    by_cases z : e - s ≤ 8
    · rw [if_pos (show nI (e - s) ≤ 8 from (nI_leI (b := 8) (by omega) (by decide)).mpr z), if_pos z, if_pos z]
      refine ws_s ?_
      refine ws_it (fun i t υ => t = nI i ∧ υ.2.2 = wxF (wd Q s (e - s)) i ∧ (υ.1 1 8 = nI e ∧ υ.1 1 7 = nI s ∧ υ.1 1 6 = σ.1 1 6 ∧ υ.1 1 2 = 2 ∧ υ.2.1 1 4 = p32 (wd Q s (e - s))) ∧ FT σ υ) 23 (by decide) ⟨rfl, kw, ⟨(mm_ne (by omega)).trans k8', (mm_ne (by omega)).trans k7, (mm_ne (by omega)).trans k6, mm_at, k4'⟩, FT_tr hF (FT_i (by decide))⟩ ?_
      rintro i t υ hi ⟨rfl, uw, ⟨u8, u7, u6, u2, u4⟩, uF⟩
      refine ws_gW uw ?_
      cases hx : wxF (wd Q s (e - s)) i with
      | some x =>
        rw [if_neg (by simp)]
        refine wp_pu (Or.inr ⟨_, rfl, wp_pu ⟨⟨u8, u7, u6, u2, ?_, u4⟩, uF⟩⟩)
        rw [uw, hx]
        exact (wx_st hx 23 hi).symm
      | none =>
        rw [if_pos rfl]
        by_cases hin : i < 23
        · rw [if_neg (show ¬ (23 : Int32) ≤ nI i from nle_n hin (by decide))]
          refine wp_eq (aW_n hin υ) (ws_gv u7 (ws_gv u8 ?_))
          refine wp_eq (c_standsAt hin (CTa_f uF hQ) vn r1 (by omega) (fun j h1 h2 => rin j h1 h2)) ?_
          refine wp_eq (x := if wtx i = wd Q s (e - s) then some ⟨i, hin⟩ else none) (τ := υ) ?_ ?_
          · by_cases q : wtx i = wd Q s (e - s)
            · rw [if_neg (bt (by simp [q])), if_pos q]
              exact (ev_bd (aW_n hin υ)).trans rfl
            · rw [if_pos (bf (by simp [q])), if_neg q]
              rfl
          · refine ws_sW ?_
            rw [lt_eq]
            refine wp_pu (Or.inl ⟨_, rfl, hin, nI_1 i, ?_, ⟨u8, u7, u6, u2, u4⟩, FT_tr uF FT_w⟩)
            show _ = (match wxF (wd Q s (e - s)) i with | some x => some x | none => if h : i < 23 then (if wtx i = wd Q s (e - s) then some ⟨i, h⟩ else none) else none)
            rw [hx]
            simp [hin]
        · have : i = 23 := by omega
          rw [if_pos (show (23 : Int32) ≤ nI i from nI_le (a := 23) (by omega) (by omega))]
          refine wp_pu (Or.inr ⟨_, rfl, wp_pu ⟨⟨u8, u7, u6, u2, ?_, u4⟩, uF⟩⟩)
          rw [uw, this]
          rfl
    · rw [if_neg (show ¬ nI (e - s) ≤ 8 from fun q => z ((nI_leI (b := 8) (by omega) (by decide)).mp q)), if_neg z, if_neg z]
      exact ws_s (wp_pu ⟨⟨(mm_ne (by omega)).trans k8', (mm_ne (by omega)).trans k7, (mm_ne (by omega)).trans k6, mm_at, kw, k4'⟩, FT_tr hF (FT_i (by decide))⟩)
  by_cases hkn : k < e - s
  · rw [if_neg (nle_n (by omega) (by omega))]
    refine ws_gv k8 (ws_a (by omega) (by decide) (hQ2.2 (s + k) (by omega)) ?_)
    have hl := rin (s + k) (by omega) (by omega)
    refine wp_eq (c_isLetter _ τ) ?_
    rw [if_neg (bt hl)]
    obtain ⟨q, q1, q2, q3⟩ := L_ex hl
    refine ws_gL k4 (ws_gv k8 (ws_a (by omega) (by decide) (hQ2.2 (s + k) (by omega)) (ws_sL (ws_gv (x := nI (s + k)) k8 (ws_s (wp_pu (Or.inl ⟨_, rfl, hkn, ?_, ?_, (mm_ne (by omega)).trans k7, (mm_ne (by omega)).trans k6, kw, FT_tr hF (FT_tr FT_l (FT_i (by decide)))⟩)))))))
    · exact mm_at.trans (nI_1 _)
    · show up2 τ.2.1 1 4 (p32 (wd Q s k) * (32 : Int64) + (((Q.2 (s + k) - (97 : Int32)) + (1 : Int32)).toInt64)) 1 4 = _
      rw [up2L_at, wd_s, p32_s, q3, cl_n (by omega), L_step q1 q2]
  · have he : e = s + k := by omega
    by_cases z : e = Q.1
    · rw [if_pos (nI_le (by omega) (by omega))]
      exact wp_pu (Or.inr ⟨_, rfl, ext he⟩)
    · rw [if_neg (nle_n (by omega) (by omega))]
      refine ws_gv k8 (ws_a (by omega) (by decide) (hQ2.2 (s + k) (by omega)) ?_)
      have hl := rout (by omega)
      rw [he] at hl
      have hl' : isL (Q.2 (s + k)) = false := hl
      refine wp_eq (c_isLetter _ τ) ?_
      rw [if_pos (bf (by rw [hl']; decide))]
      exact wp_pu (Or.inr ⟨_, rfl, ext he⟩)
theorem c_readDigits {Q : TA} {σ : MM} {s : Nat} (vQ : VTa Q) (hQ : CTa Q σ) (hs : s < Q.1) (h8 : σ.1 1 8 = nI s) (h7 : σ.1 1 7 = nI s) (h5 : σ.1 1 5 = 0) : wp (FX5_readDigits 1) σ (fun _ τ => (τ.1 1 8 = nI (run (fun k => isD (Q.2 k)) s (Q.1 - s)) ∧ τ.1 1 7 = nI s ∧ τ.1 1 6 = σ.1 1 6 ∧ τ.1 1 2 = (if run (fun k => isD (Q.2 k)) s (Q.1 - s) - s ≤ 4 then 3 else 1) ∧ τ.2.2 = σ.2.2 ∧ τ.1 1 5 = nI (dgs Q s (run (fun k => isD (Q.2 k)) s (Q.1 - s) - s))) ∧ FT σ τ) := by
  have vn := vQ.1
  obtain ⟨r1, r2⟩ := run_le (p := fun k => isD (Q.2 k)) (Q.1 - s) s
  have rin := run_in (p := fun k => isD (Q.2 k)) (Q.1 - s) s
  have rout := run_out (p := fun k => isD (Q.2 k)) (Q.1 - s) s
  generalize run (fun k => isD (Q.2 k)) s (Q.1 - s) = e at r1 r2 rin rout
  unfold FX5_readDigits
  rw [r1_0]
  refine ws_it (fun k _ τ => τ.1 1 8 = nI (s + k) ∧ τ.1 1 5 = nI (dgs Q s k) ∧ τ.1 1 7 = nI s ∧ τ.1 1 6 = σ.1 1 6 ∧ τ.2.2 = σ.2.2 ∧ FT σ τ) (e - s) (by omega) ⟨h8, h5, h7, rfl, rfl, FT_rf⟩ ?_
  rintro k _ τ hk ⟨k8, k5, k7, k6, kw, hF⟩
  have hQ2 := CTa_f hF hQ
  refine ws_gv k8 (ws_gv hQ2.1 ?_)
  have ext : e = s + k → wp (bd (gI 1 8) (fun x12 => bd (gI 1 7) (fun x13 => bd (if (x12 - x13) ≤ (4 : Int32) then pu (3 : Int32) else pu (1 : Int32) : PP (Int32)) (fun (v14 : Int32) => bd (sI 1 2 v14) (fun (_ : Unit) => pu ()))))) τ (fun _ τ => (τ.1 1 8 = nI e ∧ τ.1 1 7 = nI s ∧ τ.1 1 6 = σ.1 1 6 ∧ τ.1 1 2 = (if e - s ≤ 4 then 3 else 1) ∧ τ.2.2 = σ.2.2 ∧ τ.1 1 5 = nI (dgs Q s (e - s))) ∧ FT σ τ) := by
    intro he
    refine ws_gv k8 (ws_gv k7 ?_)
    rw [pk_sub (by omega), show s + k - s = e - s by omega]
    have k5' : τ.1 1 5 = nI (dgs Q s (e - s)) := by rw [k5]; congr 2; omega
    have k8' : τ.1 1 8 = nI e := by rw [k8, he]
    by_cases z : e - s ≤ 4
    · rw [if_pos (show nI (e - s) ≤ 4 from (nI_leI (b := 4) (by omega) (by decide)).mpr z), if_pos z]
      exact wp_eq (show pu _ τ = some (_, τ) from rfl) (ws_s (wp_pu ⟨⟨(mm_ne (by omega)).trans k8', (mm_ne (by omega)).trans k7, (mm_ne (by omega)).trans k6, mm_at, kw, (mm_ne (by omega)).trans k5'⟩, FT_tr hF (FT_i (by decide))⟩))
    · rw [if_neg (show ¬ nI (e - s) ≤ 4 from fun q => z ((nI_leI (b := 4) (by omega) (by decide)).mp q)), if_neg z]
      exact wp_eq (show pu _ τ = some (_, τ) from rfl) (ws_s (wp_pu ⟨⟨(mm_ne (by omega)).trans k8', (mm_ne (by omega)).trans k7, (mm_ne (by omega)).trans k6, mm_at, kw, (mm_ne (by omega)).trans k5'⟩, FT_tr hF (FT_i (by decide))⟩))
  by_cases hkn : k < e - s
  · rw [if_neg (nle_n (by omega) (by omega))]
    refine ws_gv k8 (ws_a (by omega) (by decide) (hQ2.2 (s + k) (by omega)) ?_)
    have hl := rin (s + k) (by omega) (by omega)
    refine wp_eq (c_isDigit _ τ) ?_
    rw [if_neg (bt hl)]
    obtain ⟨q, q1, q2, q3⟩ := D_ex hl
    refine ws_gv k5 (ws_gv k8 (ws_a (by omega) (by decide) (hQ2.2 (s + k) (by omega)) (ws_s (ws_gv (x := nI (s + k)) ((mm_ne (by omega)).trans k8) (ws_s (wp_pu (Or.inl ⟨_, rfl, hkn, ?_, ?_, ?_, ?_, kw, FT_tr hF (FT_tr (FT_i (by decide)) (FT_i (by decide)))⟩)))))))
    · exact mm_at.trans (nI_1 _)
    · refine (mm_ne (by omega)).trans (mm_at.trans ?_)
      rw [q3, show (48 : Int32) = nI 48 from rfl, pk_sub q1, show (10 : Int32) = nI 10 from rfl, pk_mul, nI_add]
      show _ = nI (dgs Q s k * 10 + ((Q.2 (s + k)).toNatClampNeg - 48))
      rw [q3, cl_n (by omega)]
    · exact (mm_ne (by omega)).trans ((mm_ne (by omega)).trans k7)
    · exact (mm_ne (by omega)).trans ((mm_ne (by omega)).trans k6)
  · have he : e = s + k := by omega
    by_cases z : e = Q.1
    · rw [if_pos (nI_le (by omega) (by omega))]
      exact wp_pu (Or.inr ⟨_, rfl, ext he⟩)
    · rw [if_neg (nle_n (by omega) (by omega))]
      refine ws_gv k8 (ws_a (by omega) (by decide) (hQ2.2 (s + k) (by omega)) ?_)
      have hl := rout (by omega)
      rw [he] at hl
      have hl' : isD (Q.2 (s + k)) = false := hl
      refine wp_eq (c_isDigit _ τ) ?_
      rw [if_pos (bf (by rw [hl']; decide))]
      exact wp_pu (Or.inr ⟨_, rfl, ext he⟩)
theorem sby23 : ∀ i, i < 8 → ib (nI i) (sln.getD 23 0) = true := by decide +kernel
theorem sg8 : ∀ q, q < 127 → (nI q).toInt8.toInt32 = nI q ∧ ¬ nI q < 0 ∧ ¬ 255 < nI q ∧ (isS (nI q) = (decide (nI q = (sby.getD 23 []).getD 0 0) || (decide (nI q = (sby.getD 23 []).getD 1 0) || (decide (nI q = (sby.getD 23 []).getD 2 0) || (decide (nI q = (sby.getD 23 []).getD 3 0) || (decide (nI q = (sby.getD 23 []).getD 4 0) || (decide (nI q = (sby.getD 23 []).getD 5 0) || (decide (nI q = (sby.getD 23 []).getD 6 0) || decide (nI q = (sby.getD 23 []).getD 7 0)))))))))  := by decide +kernel
theorem j_indexOf {q : Nat} (hq : q < 127) (σ : MM) : ∃ x, FJ0_indexOf_0f7a4 23 (nI q) σ = some (x, σ) ∧ (x < 0 ↔ ¬ isS (nI q) = true) := by
  obtain ⟨e8, n0, n255, es⟩ := sg8 q hq
  have key : wp (FJ0_indexOf_0f7a4 23 (nI q)) σ (fun x τ => τ = σ ∧ (x < 0 ↔ ¬ isS (nI q) = true)) := by
    unfold FJ0_indexOf_0f7a4 FJ0_indexOf_7cf53
    refine bd_asw (wp_eq (show FJ0_isLatin1_aae02 23 σ = some (true, σ) from rfl) ?_)
    rw [if_neg (show ¬ b2i true = 0 by decide)]
    refine bd_asw (bd_asw (wp_eq (j_len σ) ?_))
    unfold FJ1_indexOf_4cfef
    have ec : FJ1_canEncode_9a6ad (nI q) σ = some (true, σ) := by
      unfold FJ1_canEncode_9a6ad
      rw [if_neg n0, if_neg n255]
      rfl
    refine bd_asw (bd_asw (wp_eq ec ?_))
    rw [if_neg (show ¬ b2i true = 0 by decide), lt_eq, lt_eq]
    rw [if_neg (show ¬ (0 : Int32) < 0 by decide), show sln.getD 23 0 = 8 from rfl, if_neg (show ¬ (Int32.ofNat 8) < nI 8 by decide), if_pos (show (0 : Int32) < nI 8 by decide)]
    unfold FJ1_indexOfChar_4cfef
    refine bd_asw (bd_asw ?_)
    refine ws_it (fun i t τ => t = nI i ∧ τ = σ ∧ ∀ j, j < i → ¬ nI q = (sby.getD 23 []).getD j 0) 8 (by decide) ⟨rfl, rfl, fun j hj => by omega⟩ ?_
    rintro i t τ hi ⟨rfl, rfl, hj⟩
    by_cases hin : i < 8
    · rw [if_neg (nle_n hin (by decide))]
      have ea : aB 23 (nI i) τ = some ((sby.getD 23 []).getD i 0, τ) := by
        unfold aB
        rw [if_pos (sby23 i hin), cl_n (by omega)]
      refine wp_eq ea ?_
      rw [e8]
      by_cases z : (sby.getD 23 []).getD i 0 = nI q
      · rw [if_pos z]
        refine wp_pu (Or.inr ⟨_, rfl, ?_⟩)
        refine wp_eq (show (Sum.elim _ _ : (Unit ⊕ Int32) → PP Int32) (Sum.inr (nI i)) τ = some (nI i, τ) from rfl) ?_
        refine ⟨nI i, τ, rfl, rfl, ?_⟩
        constructor
        · intro h; exact absurd h (nI_pos (by omega))
        · intro h
          exfalso
          apply h
          rw [es, ← z]
          rcases (show i = 0 ∨ i = 1 ∨ i = 2 ∨ i = 3 ∨ i = 4 ∨ i = 5 ∨ i = 6 ∨ i = 7 by omega) with rfl | rfl | rfl | rfl | rfl | rfl | rfl | rfl <;> simp
      · rw [if_neg z, lt_eq]
        refine wp_pu (Or.inl ⟨_, rfl, hin, nI_1 i, rfl, fun j hj2 => ?_⟩)
        by_cases z3 : j = i
        · rw [z3]; exact fun h => z h.symm
        · exact hj j (by omega)
    · have : i = 8 := by omega
      subst this
      rw [if_pos (le_nn (by decide))]
      refine wp_pu (Or.inr ⟨_, rfl, ?_⟩)
      refine wp_eq (show (Sum.elim _ _ : (Unit ⊕ Int32) → PP Int32) (Sum.inl ()) τ = some ((-1 : Int32), τ) from rfl) ?_
      refine ⟨-1, τ, rfl, rfl, ?_⟩
      constructor
      · intro _ h
        rw [es, decide_eq_false (hj 0 (by decide)), decide_eq_false (hj 1 (by decide)), decide_eq_false (hj 2 (by decide)), decide_eq_false (hj 3 (by decide)), decide_eq_false (hj 4 (by decide)), decide_eq_false (hj 5 (by decide)), decide_eq_false (hj 6 (by decide)), decide_eq_false (hj 7 (by decide))] at h
        exact absurd h (by decide)
      · intro _; decide
  obtain ⟨x, τ, e, rfl, h⟩ := key
  exact ⟨x, e, h⟩
