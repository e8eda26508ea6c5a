/-! ===== the law's case 29 ===== -/
noncomputable def FL_rests (p1 p2 p3 p4 : Int32) : PP Int32 := bd (FX11_rests p1 p2 p3 p4) (fun r σ => some (rcd r, rst r σ))
theorem good_wsL {M : MI} (hM : M.1 = RL) : GoodIn (mws M) (va_wsS M.1 146 yL_rests wsL) := by
  have hg : ∀ w ∈ lg, w ∈ mws M ∧ ((w.onTables && w.keeps) = true ∨ ∃ ty, w = .arrayClass ty) := fun w q => ⟨List.mem_cons_of_mem _ q, good_of_word (List.all_eq_true.mp good_tbl _ q)⟩
  intro w hw
  unfold va_wsS at hw
  rcases List.mem_append.mp hw with h | h
  · rw [hM] at h
    rcases List.mem_cons.mp h with rfl | h
    · exact hg _ (mw (i := 1175) (by decide +kernel))
    rcases List.mem_cons.mp h with rfl | h
    · exact hg _ (mw (i := 1176) (by decide +kernel))
    rcases List.mem_cons.mp h with rfl | h
    · exact hg _ (mw (i := 0) (by decide +kernel))
    cases h
  · rcases List.mem_cons.mp h with rfl | h
    · exact hg _ (mw (i := 1177) (by decide +kernel))
    · exact hg _ h
section RPR
variable {ρ : Type} {l : Launch} {K : KK} {d : Nat} {M : MI} {pc : Nat} {lv : List (Nat × Value)} {st : List Value} {en : ρ → Option Value}
theorem rp_rests {α : Type} {g : Int32 → PP α} {k : α → PP ρ} {b L zc zs : Nat} {xs : Nat → Int32} {p1 p2 p3 p4 : Int32} (hl : l.stackTraces = false) (hdd : 12 ≤ d) (hz1 : zc + 1 ≤ 601024) (hz2 : zs + 6 ≤ 7293033) (hM : M.1 = RL) (hW : (st.map fun v => v.category).sum ≤ 8) (hd : decode M.2.2.1 pc = .ok (.invokestatic 146, 3))
    (kk : ∀ x, RP l K 271 d M (ZX K b L xs (zc + 1) (zs + 6)) (pc + 3) lv (.int x :: st) en (bd (g x) k)) : RP l K 271 d M (ZX K b L xs zc zs) pc lv (.ref (K.2.1 + 270) :: .int p4 :: .int p3 :: .int p2 :: .int p1 :: .ref (K.2.1 + 0) :: st) en (bd (bd (FL_rests p1 p2 p3 p4) g) k) := by
  intro σ r σ' q
  obtain ⟨x, σ1, q1, q2⟩ := bd2_some q
  obtain ⟨r0, σ0, q3, q4⟩ := bd_some q1
  injection q4 with q4
  have e1 : rcd r0 = x := congrArg Prod.fst q4
  have e2 : rst r0 σ0 = σ1 := congrArg Prod.snd q4
  subst e1
  subst e2
  intro p e R s m args below meth c C H locs ls hP hS hl2
  by_cases hX : XX K b L xs s ∧ R = room_1 ∧ args = #[Value.ref b]
  · have hR := C.2.2.2.2.2.2.2.2.1
    have hRc : R.cells = 601024 := by rw [hX.2.1]; rfl
    have hRs : R.slots = 7293033 := by rw [hX.2.1]; rfl
    have hrun := vx_runSX (g := F0 m pc ls (.ref (K.2.1 + 270) :: .int p4 :: .int p3 :: .int p2 :: .int p1 :: .ref (K.2.1 + 0) :: st)) (As := [.ref (K.2.1 + 0), .int p1, .int p2, .int p3, .int p4, .ref (K.2.1 + 270)]) (rest := st) (nL := M.2.2.2.1) (Ts := mws M) (own := M.1) (index := 146) (H := H) (locs := locs) (cells := zc) (slots := zs) (e := e) (R := R) (below := below) (meth := meth) (hh := hhL) (bytes := cL_rests) (maxL := 7) (ret := some .int) (n := 6)
      ⟨C.1, C.2.1, C.2.2.2.1, C.own, C.2.2.2.2.2.1⟩ (SL_rests (K := K) hl p1 p2 p3 p4 q3)
      (vx_cwSW (ws' := lg) 6 C.2.2.2.2.2.1 (good_wsL hM) rfl rfl rfl (by decide +kernel) ⟨by have := hR.1; show 10 + 1 ≤ R.frames; omega, by have := hR.2.1; show 8 + (7 + 11) + 320 ≤ R.locals; omega⟩)
      ⟨ct_blind, fun U hU hW2 => ⟨rfl, C.2.2.2.2.2.2.2.1.mv hS hU hW2, by rw [hU]; exact hP⟩⟩ rfl rfl hl2.1 rfl (lv_room hW) hd ⟨by omega, by omega⟩
    intro T hT X
    rcases hrun T hT X with ⟨v, st₀, t, T', L, h0, X', hL, e1, e2, ⟨⟨v2, σ2, hv, ⟨hq1, hq2⟩, hP'⟩, hF⟩, stp⟩ | ⟨q, st₀, t, T', L, E, ce, h0, X', hL, e1, e2, hE, -⟩
    · cases hv
      subst hq1
      subst hq2
      have hS' := (vx_keep h0 e1 hS (fun q _ z => z) (fun q z => z) hL hF).2.2
      rw [← e1] at hP'
      obtain ⟨t2, a1, b1⟩ := kk _ _ r σ' q2 p e R s m args below meth c ⟨C.1, C.2.1, C.2.2.1, C.2.2.2.1, C.2.2.2.2.1, C.2.2.2.2.2.1, C.2.2.2.2.2.2.1, C.2.2.2.2.2.2.2.1, ⟨hR.1, hR.2.1, by show zc + 1 ≤ R.cells; omega, by show zs + 6 ≤ R.slots; omega⟩, C.nn⟩ T'.heap (locs ++ L) ls hP' hS' hl2 T' rfl X'
      exact ⟨t2, stp t2 a1, b1⟩
    · exact hE.elim
  · intro T hT X
    exact ⟨_, Steps.refl _, Or.inl hX⟩
theorem rp_lald270 {α : Type} {f : Int64 → PP α} {k : α → PP ρ} {Z : ZZ} {i : Int32} (hd : decode M.2.2.1 pc = .ok (.laload, 1)) (kk : ∀ x, RP l K 271 d M Z (pc + 1) lv (.long x :: st) en (bd (f x) k)) : RP l K 271 d M Z pc lv (.int i :: .ref (K.2.1 + 270) :: st) en (bd (bd (aL 270 1 i) f) k) := by
  intro σ r σ' q p e R s me args below meth c C H locs ls hP hS hl
  by_cases hb : ib i 1 = true
  · have q2 : bd (f (σ.2.1 270 i.toNatClampNeg)) k σ = some (r, σ') := by simpa [bd, aL, hb] using q
    exact va_lald C.1 C.2.1 C.k hP 270 1 wl270 rfl (ib_in hb) hd (kk _ σ r σ' q2 p e R s me args below meth c C H locs ls hP hS hl)
  · simp [bd, aL, hb] at q
end RPR
noncomputable def TL_29 (chk : PP Unit) (q : Nat → Int32) : PP Unit := bd (FL_rests (q 1) (q 2) (q 3) (q 4)) (fun x1 => bd (FX12_rests 249 (q 1) (q 2) (q 3) (q 4)) (fun x2 => bd (FX12_thrown 249) (fun x3 => if x3 = x1 then (if x1 = 0 then bd (aL 270 1 (0 : Int32)) (fun y => if lg_cmp y x2.toInt64 = 0 then chk else fl) else chk) else fl)))
set_option maxHeartbeats 4000000 in
set_option maxRecDepth 100000 in
theorem LC_29 {l : Launch} {K : KK} {chk : PP Unit} {zc zs b L : Nat} {xs : Nat → Int32} {x4 : Int32} {q : Nat → Int32} (hl : l.stackTraces = false) (hz1 : zc + 1 ≤ 601024) (hz2 : zs + 6 ≤ 7293033) (hE : RP l K 271 200 mL_law (ZX K b L xs (zc + 1) (zs + 6)) 1290 [(0, .ref b), (1, .ref (K.2.1 + 0)), (2, .ref (K.2.1 + 249)), (3, .ref (K.2.1 + 270)), (4, .int x4)] [] enU (bd chk pu)) (hq : ∀ c, c < 7 → vp_in (x4 + Int32.ofNat c) L) (hv : ∀ c, c < 7 → xs (x4 + Int32.ofNat c).toNatClampNeg = q c) : RP l K 271 200 mL_law (ZX K b L xs zc zs) 1071 [(0, .ref b), (1, .ref (K.2.1 + 0)), (2, .ref (K.2.1 + 249)), (3, .ref (K.2.1 + 270)), (4, .int x4)] [] enU (TL_29 chk q) := by
  have hn : 270 ≤ 271 := by decide
  refine rp_id ?_
  unfold TL_29
  refine rp_aload_n 1 dL_law_1071 rfl ?_
  refine rp_aload_n 0 dL_law_1072 rfl ?_
  refine rp_iload 4 dL_law_1073 rfl ?_
  refine rp_iconst (1 : Int32) dL_law_1075 (by decide) ?_
  refine rp_iadd dL_law_1076 ?_
  refine rp_sld (hq 1 (by decide)) (hv 1 (by decide)) dL_law_1077 ?_
  refine rp_aload_n 0 dL_law_1078 rfl ?_
  refine rp_iload 4 dL_law_1079 rfl ?_
  refine rp_iconst (2 : Int32) dL_law_1081 (by decide) ?_
  refine rp_iadd dL_law_1082 ?_
  refine rp_sld (hq 2 (by decide)) (hv 2 (by decide)) dL_law_1083 ?_
  refine rp_aload_n 0 dL_law_1084 rfl ?_
  refine rp_iload 4 dL_law_1085 rfl ?_
  refine rp_iconst (3 : Int32) dL_law_1087 (by decide) ?_
  refine rp_iadd dL_law_1088 ?_
  refine rp_sld (hq 3 (by decide)) (hv 3 (by decide)) dL_law_1089 ?_
  refine rp_aload_n 0 dL_law_1090 rfl ?_
  refine rp_iload 4 dL_law_1091 rfl ?_
  refine rp_iconst (4 : Int32) dL_law_1093 (by decide) ?_
  refine rp_iadd dL_law_1094 ?_
  refine rp_sld (hq 4 (by decide)) (hv 4 (by decide)) dL_law_1095 ?_
  refine rp_aload_n 3 dL_law_1096 rfl ?_
  refine rp_rests hl (by decide) hz1 hz2 rfl (Nat.le_of_ble_eq_true rfl) dL_law_1097 (fun x1 => ?_)
  refine rp_istore [(5, .int x1), (0, .ref b), (1, .ref (K.2.1 + 0)), (2, .ref (K.2.1 + 249)), (3, .ref (K.2.1 + 270)), (4, .int x4)] dL_law_1100 (by decide) rfl ?_
  refine rp_aload_n 3 dL_law_1102 rfl ?_
  refine rp_aload_n 1 dL_law_1103 rfl ?_
  refine rp_iload 5 dL_law_1104 rfl ?_
  refine rp_iconst (1 : Int32) dL_law_1106 (by decide) ?_
  refine rp_iadd dL_law_1107 ?_
  refine rp_sld (hq 1 (by decide)) (hv 1 (by decide)) dL_law_1108 ?_
  refine rp_aload_n 1 dL_law_1109 rfl ?_
  refine rp_iload 5 dL_law_1110 rfl ?_
  refine rp_iconst (2 : Int32) dL_law_1112 (by decide) ?_
  refine rp_iadd dL_law_1113 ?_
  refine rp_sld (hq 2 (by decide)) (hv 2 (by decide)) dL_law_1114 ?_
  refine rp_aload_n 1 dL_law_1115 rfl ?_
  refine rp_iload 5 dL_law_1116 rfl ?_
  refine rp_iconst (3 : Int32) dL_law_1118 (by decide) ?_
  refine rp_iadd dL_law_1119 ?_
  refine rp_sld (hq 3 (by decide)) (hv 3 (by decide)) dL_law_1120 ?_
  refine rp_aload_n 1 dL_law_1121 rfl ?_
  refine rp_iload 5 dL_law_1122 rfl ?_
  refine rp_iconst (4 : Int32) dL_law_1124 (by decide) ?_
  refine rp_iadd dL_law_1125 ?_
  refine rp_sld (hq 4 (by decide)) (hv 4 (by decide)) dL_law_1126 ?_
  refine rp_callVi [.int (q 1), .int (q 2), .int (q 3), .int (q 4)] (SX12_rests (hn := hn) 249 (q 1) (q 2) (q 3) (q 4) o249) cvX12_rests (mw (i := 1790) (by decide +kernel)) (by omega) o249 (by decide) rfl rfl rfl (Nat.le_of_ble_eq_true rfl) dL_law_1127 (fun x2 => ?_)
  refine rp_istore [(6, .int x2), (5, .int x1), (0, .ref b), (1, .ref (K.2.1 + 0)), (2, .ref (K.2.1 + 249)), (3, .ref (K.2.1 + 270)), (4, .int x4)] dL_law_1130 (by decide) rfl ?_
  refine rp_aload_n 4 dL_law_1132 rfl ?_
  refine rp_callVi [] (SX12_thrown (hn := hn) 249 o249) cvX12_thrown (mw (i := 1253) (by decide +kernel)) (by omega) o249 (by decide) rfl rfl rfl (Nat.le_of_ble_eq_true rfl) dL_law_1133 (fun x3 => ?_)
  refine rp_iload 1 dL_law_1136 rfl ?_
  refine rp_icmp_eq 1143 dL_law_1138 (by decide) ?_ rp_fl
  refine rp_iload 1 dL_law_1143 rfl ?_
  have hE2 : RP l K 271 200 mL_law (ZX K b L xs (zc + 1) (zs + 6)) 1160 [(6, .int x2), (5, .int x1), (0, .ref b), (1, .ref (K.2.1 + 0)), (2, .ref (K.2.1 + 249)), (3, .ref (K.2.1 + 270)), (4, .int x4)] [] enU (bd chk pu) := by
    refine rp_goto 1290 dL_law_1160 (by decide) ?_
    exact rp_sub [2, 3, 4, 5, 6] rfl hE
  refine rp_if_ne 1160 dL_law_1145 (by decide) hE2 ?_
  refine rp_aload_n 5 dL_law_1148 rfl ?_
  refine rp_iconst (0 : Int32) dL_law_1149 (by decide) ?_
  refine rp_lald270 dL_law_1150 (fun y => ?_)
  refine rp_iload 0 dL_law_1151 rfl ?_
  refine rp_i2l dL_law_1153 ?_
  refine rp_lcmp dL_law_1154 ?_
  exact rp_if_eq 1160 dL_law_1155 (by decide) hE2 rp_fl
