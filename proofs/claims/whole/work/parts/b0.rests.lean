/-! ===== rests: it returns, or it throws ===== -/
abbrev mX11_rests : MI := (RX11, yX11_rests, cX11_rests, 7, some .int)
abbrev nse : String := "java/util/NoSuchElementException"
abbrev nms : List String := ["java/lang/RuntimeException", "java/lang/Exception"]
theorem cvX11_rests : CV mX11_rests 4 := ⟨⟨mw (i := 1182) (by decide +kernel), mw (i := 1) (by decide +kernel), ⟨by decide +kernel, by decide +kernel, by decide +kernel⟩, by decide⟩, mw (i := 1180) (by decide +kernel), mw (i := 1181) (by decide +kernel)⟩
theorem dR_0 : decode cX11_rests 0 = .ok (.iload_n 1, 1) := by decide +kernel
theorem dR_1 : decode cX11_rests 1 = .ok (.invokestatic 314, 3) := by decide +kernel
theorem dR_4 : decode cX11_rests 4 = .ok (.ifCond .eq 23, 3) := by decide +kernel
theorem dR_7 : decode cX11_rests 7 = .ok (.iload_n 2, 1) := by decide +kernel
theorem dR_8 : decode cX11_rests 8 = .ok (.invokestatic 314, 3) := by decide +kernel
theorem dR_11 : decode cX11_rests 11 = .ok (.ifCond .eq 16, 3) := by decide +kernel
theorem dR_14 : decode cX11_rests 14 = .ok (.iload_n 3, 1) := by decide +kernel
theorem dR_15 : decode cX11_rests 15 = .ok (.invokestatic 314, 3) := by decide +kernel
theorem dR_18 : decode cX11_rests 18 = .ok (.ifCond .eq 9, 3) := by decide +kernel
theorem dR_21 : decode cX11_rests 21 = .ok (.iload 4, 2) := by decide +kernel
theorem dR_23 : decode cX11_rests 23 = .ok (.iconst (-1), 1) := by decide +kernel
theorem dR_24 : decode cX11_rests 24 = .ok (.if_icmp .ge 11, 3) := by decide +kernel
theorem dR_27 : decode cX11_rests 27 = .ok (.new 317, 3) := by decide +kernel
theorem dR_30 : decode cX11_rests 30 = .ok (.dup, 1) := by decide +kernel
theorem dR_31 : decode cX11_rests 31 = .ok (.invokespecial 319, 3) := by decide +kernel
theorem dR_34 : decode cX11_rests 34 = .ok (.athrow, 1) := by decide +kernel
theorem dR_35 : decode cX11_rests 35 = .ok (.iconst 0, 1) := by decide +kernel
theorem dR_36 : decode cX11_rests 36 = .ok (.istore 5, 2) := by decide +kernel
theorem dR_38 : decode cX11_rests 38 = .ok (.iconst 0, 1) := by decide +kernel
theorem dR_39 : decode cX11_rests 39 = .ok (.istore 6, 2) := by decide +kernel
theorem dR_41 : decode cX11_rests 41 = .ok (.iload 6, 2) := by decide +kernel
theorem dR_43 : decode cX11_rests 43 = .ok (.iconst 4, 1) := by decide +kernel
theorem dR_44 : decode cX11_rests 44 = .ok (.if_icmp .ge 33, 3) := by decide +kernel
theorem dR_47 : decode cX11_rests 47 = .ok (.iload_n 1, 1) := by decide +kernel
theorem dR_48 : decode cX11_rests 48 = .ok (.iload_n 2, 1) := by decide +kernel
theorem dR_49 : decode cX11_rests 49 = .ok (.iload_n 3, 1) := by decide +kernel
theorem dR_50 : decode cX11_rests 50 = .ok (.iload 6, 2) := by decide +kernel
theorem dR_52 : decode cX11_rests 52 = .ok (.invokestatic 320, 3) := by decide +kernel
theorem dR_55 : decode cX11_rests 55 = .ok (.ifCond .eq 16, 3) := by decide +kernel
theorem dR_58 : decode cX11_rests 58 = .ok (.iload 5, 2) := by decide +kernel
theorem dR_60 : decode cX11_rests 60 = .ok (.iload 4, 2) := by decide +kernel
theorem dR_62 : decode cX11_rests 62 = .ok (.if_icmp .ne 6, 3) := by decide +kernel
theorem dR_65 : decode cX11_rests 65 = .ok (.iload 6, 2) := by decide +kernel
theorem dR_67 : decode cX11_rests 67 = .ok (.ireturn, 1) := by decide +kernel
theorem dR_68 : decode cX11_rests 68 = .ok (.iinc 5 1, 3) := by decide +kernel
theorem dR_71 : decode cX11_rests 71 = .ok (.iinc 6 1, 3) := by decide +kernel
theorem dR_74 : decode cX11_rests 74 = .ok (.goto (-33), 3) := by decide +kernel
theorem dR_77 : decode cX11_rests 77 = .ok (.iload 4, 2) := by decide +kernel
theorem dR_79 : decode cX11_rests 79 = .ok (.iconst (-1), 1) := by decide +kernel
theorem dR_80 : decode cX11_rests 80 = .ok (.if_icmp .eq 11, 3) := by decide +kernel
theorem dR_83 : decode cX11_rests 83 = .ok (.new 317, 3) := by decide +kernel
theorem dR_86 : decode cX11_rests 86 = .ok (.dup, 1) := by decide +kernel
theorem dR_87 : decode cX11_rests 87 = .ok (.invokespecial 319, 3) := by decide +kernel
theorem dR_90 : decode cX11_rests 90 = .ok (.athrow, 1) := by decide +kernel
theorem dR_91 : decode cX11_rests 91 = .ok (.iload 5, 2) := by decide +kernel
theorem dR_93 : decode cX11_rests 93 = .ok (.ireturn, 1) := by decide +kernel
theorem r_asg (vm : Vm) (c : ClassId) : vm.assignable c c = true := by
  show vm.assignableAux (255 + 1) c c = true
  rw [Vm.assignableAux]
  simp only [beq_self_eq_true, Bool.true_or]
theorem r_decl {args : Array Value} {s : State} {x : MethodName} {bytes : ByteArray} {maxL : Nat} {ret : Option FieldType} (h1 : (Cond.instanceMethod x).before args s = true) (h2 : (Cond.code x bytes maxL ret).before args s = true) : (Cond.declares x).before args s = true := by
  obtain ⟨m, meth, a1, a2, a3, -⟩ := Cond.instanceMethod_spec h1
  obtain ⟨meth9, c, b1, -, -, -, -, -, -, b8⟩ := Cond.code_spec a1 h2
  cases Option.some.inj (a2.symm.trans b1)
  simp [Cond.before, Cond.holds, Cond.value, a1, a2, a3, b8]
theorem r_cast {args : Array Value} {s : State} {C : String} {n : Nat} (h : (Cond.instantiable C n).before args s = true) : (Cond.castable C C).before args s = true := by
  obtain ⟨c, k, hc, -⟩ := Cond.instantiable_spec h
  simp [Cond.before, Cond.holds, Cond.value, hc, r_asg]
abbrev rdl : List Cond := [.declares ⟨"java/lang/RuntimeException", "<init>", "()V"⟩, .declares ⟨"java/lang/Exception", "<init>", "()V"⟩, .declares ⟨"java/lang/Throwable", "<init>", "()V"⟩, .castable nse nse]
theorem rat1 : ∀ w ∈ (vx_at0 RX11 319 nse nms).filter goodWord, w ∈ lg := by decide +kernel
theorem rat2 : ∀ w ∈ (vx_at0 RX11 319 nse nms).filter (fun w => !goodWord w), w ∈ rdl := by decide +kernel
theorem rat3 : ∀ w ∈ Cond.classLink RX11 317 nse :: Cond.initialized nse :: vx_at0 RX11 319 nse nms, vx_ot w = true := by decide +kernel
theorem rdl_of {args : Array Value} {s : State} (h : ∀ w ∈ lg, w.before args s = true) : ∀ w ∈ rdl, w.before args s = true := by
  refine vx_c (r_decl (h _ (mw (i := 1229) (by decide +kernel))) (h (Cond.code _ prog_23_method_1_code 1 none) (mw (i := 1230) (by decide +kernel)))) (vx_c (r_decl (h _ (mw (i := 1232) (by decide +kernel))) (h (Cond.code _ prog_20_method_1_code 1 none) (mw (i := 1233) (by decide +kernel)))) (vx_c (r_decl (h _ (mw (i := 1209) (by decide +kernel))) (h (Cond.code _ prog_28_method_1_code 1 none) (mw (i := 1210) (by decide +kernel)))) (vx_c (r_cast (n := 6) (h _ (mw (i := 1187) (by decide +kernel)))) vx_n)))
theorem rat {args : Array Value} {s : State} (h : ∀ w ∈ lg, w.before args s = true) : ∀ w ∈ vx_at0 RX11 319 nse nms, w.before args s = true := vx_hat (fun w hw => h w (rat1 w hw)) rat2 (rdl_of h)
/-- what rests answers: an int, or nothing where it throws -/
def enR (x : Option Int32) : Option Value := x.map Value.int
def QR (K : KK) (n : Nat) (Q : Option Value → MM → Prop) : Array Value → State → Outcome → State → Prop := QC K n (fun v σ' => (∃ i, v = some (.int i)) ∧ Q v σ')
def XR (K : KK) (n : Nat) (Q : Option Value → MM → Prop) : String → State → State → Prop := fun E st t => E = nse ∧ (∃ σ', Q none σ' ∧ va_P K.1 cl0 (wl K n σ') t.heap) ∧ va_F (AA K) st t
def GR (R : Room) (below : List Frame) (args : Array Value) (s : State) : Prop := 1 ≤ R.cells ∧ 6 ≤ R.slots ∧ ∃ m, s.frames = .invoking m args :: below ∧ s.methodNamed? yX11_rests = some m
def ZR (K : KK) (n : Nat) : ZZ := (0, 0, fun R below args s Q T => ¬ GR R below args s ∨ vx_MQ below (QR K n Q) (XR K n Q) args s 1 6 (AA K) T)
section RRR
variable {l : Launch} {K : KK} {n d : Nat} {pc : Nat} {lv : List (Nat × Value)} {st : List Value}
theorem rr_ret {x : Int32} (hd : decode cX11_rests pc = .ok (.ireturn, 1)) : RP l K n d mX11_rests (ZR K n) pc lv [.int x] enR (pu (some x)) := by
  intro σ r σ' q p e R s m args below meth c C H locs ls hP hS hl
  cases q
  have h : W p l e R s m args below meth c H locs 0 0 (vx_MQ below (QR K n (fun v σ2 => v = enR (some x) ∧ σ2 = σ)) (XR K n (fun v σ2 => v = enR (some x) ∧ σ2 = σ)) args s 1 6 (AA K)) (F0 m pc ls [.int x]) := by
    refine vx_ret ?_
    refine W.widen (k := 1) (n := 6) (Nat.zero_le _) (Nat.zero_le _) ?_
    exact W.iret (hlocks := C.2.2.2.2.2.2.1) C.1 C.2.1 C.2.2.1 (fun t ht hW => ⟨⟨_, _, rfl, ⟨⟨x, rfl⟩, rfl, rfl⟩, by rw [ht]; exact hP⟩, hS.F ht⟩) hS.2.2 hd
  intro T hT X
  obtain ⟨t, a1, b1⟩ := h T hT X
  exact ⟨t, a1, Or.inr b1⟩
theorem rr_throw (hl : l.stackTraces = false) (hd8 : 8 ≤ d) (hst : (st.map fun v => v.category).sum ≤ 8) (d0 : decode cX11_rests pc = .ok (.new 317, 3)) (d3 : decode cX11_rests (pc + 3) = .ok (.dup, 1)) (d4 : decode cX11_rests (pc + 4) = .ok (.invokespecial 319, 3)) (d7 : decode cX11_rests (pc + 7) = .ok (.athrow, 1)) : RP l K n d mX11_rests (ZR K n) pc lv st enR (pu none) := by
  intro σ r σ' q p e R s m args below meth c C H locs ls hP hS hl2
  cases q
  intro T hT X
  by_cases hG : GR R below args s
  · obtain ⟨g1, g2, m9, g3, g4⟩ := hG
    have hm : m9 = m := by
      have h := g3.symm.trans X.frames
      injection h with h1 h2
      injection h1
    subst hm
    have htab : ∀ x ∈ c.exceptionTable.toList, False := by
      obtain ⟨meth9, c9, h1, h2, -, -, -, -, h7, -⟩ := Cond.code_spec g4 (C.2.2.2.2.2.1 _ List.mem_cons_self)
      cases Option.some.inj (h1.symm.trans X.method)
      cases Option.some.inj (h2.symm.trans X.code)
      intro x hx
      rw [Array.isEmpty_iff.mp h7] at hx
      cases hx
    have hR := C.2.2.2.2.2.2.2.2.1
    have hks := C.ks.2.2.2.2.2.2.2.2.2.1
    have h : W p l e R s m9 args below meth c H locs 0 0 (vx_MQ below (QR K n (fun v σ2 => v = enR none ∧ σ2 = σ)) (XR K n (fun v σ2 => v = enR none ∧ σ2 = σ)) args s 1 6 (AA K)) (F0 m9 pc ls st) :=
      vx_throw0 (own := RX11) (cls := nse) (names := nms) (A := AA K) C.1 C.2.1 hl C.own (by decide +kernel) (by decide +kernel) (C.w (mw (i := 1186) (by decide +kernel))) (C.w (mw (i := 26) (by decide +kernel))) (rat (fun w hw => C.w hw)) rat3 hks.2.1 hks.2.2 hS (hl2.1.trans C.2.2.2.1.symm) d0 d3 d4 d7
        (fun x hx => (htab x hx).elim) (by have := hR.1; show 2 + 3 < R.frames; omega) (by have := hR.2.1; show _ + (13 * (2 + 1) + 42) ≤ R.locals; omega) (by omega) (by omega) C.2.2.2.2.2.2.1
        (fun t ha hz hk => ⟨rfl, ⟨σ, ⟨rfl, rfl⟩, hP.kept (fun k9 x hx => hk x.1 ((hP k9 x hx).lt))⟩, Nat.le_trans hS.1 hz, fun q h1 h2 => (hk q (Nat.lt_of_lt_of_le h1 hS.1)).trans (hS.2.1 q h1 h2)⟩) hS.2.2 (Nat.le_refl _) (Nat.le_refl _)
    obtain ⟨t, a1, b1⟩ := h T hT X
    exact ⟨t, a1, Or.inr b1⟩
  · exact ⟨_, Steps.refl _, Or.inl hG⟩
end RRR
noncomputable def FX11_restB (p1 p2 p3 p4 : Int32) : Int32 × Int32 → PP ((Int32 × Int32) ⊕ Option Int32) := fun s5 => if (4 : Int32) ≤ s5.2 then (if p4 = (-1 : Int32) then pu (Sum.inr (some s5.1)) else pu (Sum.inr none)) else bd (FX11_isRest p1 p2 p3 s5.2) (fun x => if b2i x = 0 then lt (s5.2 + (1 : Int32)) (fun y => pu (Sum.inl (s5.1, y))) else if s5.1 = p4 then pu (Sum.inr (some s5.2)) else lt (s5.1 + (1 : Int32)) (fun y1 => lt (s5.2 + (1 : Int32)) (fun y2 => pu (Sum.inl (y1, y2)))))
noncomputable def FX11_rests (p1 p2 p3 p4 : Int32) : PP (Option Int32) := bd (FX11_isStake p1) (fun x1 => if b2i x1 = 0 then pu none else bd (FX11_isStake p2) (fun x2 => if b2i x2 = 0 then pu none else bd (FX11_isStake p3) (fun x3 => if b2i x3 = 0 then pu none else if (-1 : Int32) ≤ p4 then it (FX11_restB p1 p2 p3 p4) FU ((0 : Int32), (0 : Int32)) else pu none)))
set_option maxHeartbeats 4000000 in
set_option maxRecDepth 100000 in
theorem RX11_rests {l : Launch} {K : KK} {n : Nat} (hn : 270 ≤ n) (hl : l.stackTraces = false) (p1 p2 p3 p4 : Int32) (b : Nat) : RP l K n 8 mX11_rests (ZR K n) 0 [(0, .ref b), (1, .int p1), (2, .int p2), (3, .int p3), (4, .int p4)] [] enR (FX11_rests p1 p2 p3 p4) := by
  refine rp_id ?_
  unfold FX11_rests
  have hT27 : ∀ lv, RP l K n 8 mX11_rests (ZR K n) 27 lv [] enR (pu none) := fun lv => rr_throw hl (Nat.le_refl _) (Nat.zero_le _) dR_27 dR_30 dR_31 dR_34
  refine rp_iload_n 1 dR_0 rfl ?_
  refine rp_callSz [.int p1] (SX11_isStake (hn := hn) p1) csX11_isStake (mw (i := 1183) (by decide +kernel)) (by omega) rfl rfl (Nat.le_of_ble_eq_true rfl) dR_1 (fun x1 => ?_)
  refine rp_if_eq 27 dR_4 (by decide) ?_ ?_
  · exact rp_pu (hT27 _)
  refine rp_iload_n 2 dR_7 rfl ?_
  refine rp_callSz [.int p2] (SX11_isStake (hn := hn) p2) csX11_isStake (mw (i := 1183) (by decide +kernel)) (by omega) rfl rfl (Nat.le_of_ble_eq_true rfl) dR_8 (fun x2 => ?_)
  refine rp_if_eq 27 dR_11 (by decide) ?_ ?_
  · exact rp_pu (hT27 _)
  refine rp_iload_n 3 dR_14 rfl ?_
  refine rp_callSz [.int p3] (SX11_isStake (hn := hn) p3) csX11_isStake (mw (i := 1183) (by decide +kernel)) (by omega) rfl rfl (Nat.le_of_ble_eq_true rfl) dR_15 (fun x3 => ?_)
  refine rp_if_eq 27 dR_18 (by decide) ?_ ?_
  · exact rp_pu (hT27 _)
  refine rp_iload 4 dR_21 rfl ?_
  refine rp_iconst (-1 : Int32) dR_23 (by decide) ?_
  refine rp_icmp_ge 35 dR_24 (by decide) ?_ (rp_pu (hT27 _))
  refine rp_iconst (0 : Int32) dR_35 (by decide) ?_
  refine rp_istore [(5, .int (0 : Int32)), (0, .ref b), (1, .int p1), (2, .int p2), (3, .int p3), (4, .int p4)] dR_36 (by decide) rfl ?_
  refine rp_iconst (0 : Int32) dR_38 (by decide) ?_
  refine rp_istore [(6, .int (0 : Int32)), (5, .int (0 : Int32)), (0, .ref b), (1, .int p1), (2, .int p2), (3, .int p3), (4, .int p4)] dR_39 (by decide) rfl ?_
  refine rp_sub [3, 4, 5, 6, 1, 0] rfl (rp_it (fun (s5 : Int32 × Int32) => [(1, .int p1), (2, .int p2), (3, .int p3), (4, .int p4), (5, .int s5.1), (6, .int s5.2)]) (fun N41 ih41 s5 => ?_) FU ((0 : Int32), (0 : Int32)))
  unfold FX11_restB at ih41 ⊢
  refine rp_iload 5 dR_41 rfl ?_
  refine rp_iconst (4 : Int32) dR_43 (by decide) ?_
  refine rp_icmp_ge 77 dR_44 (by decide) ?_ ?_
  · refine rp_iload 3 dR_77 rfl ?_
    refine rp_iconst (-1 : Int32) dR_79 (by decide) ?_
    refine rp_icmp_eq 91 dR_80 (by decide) ?_ ?_
    · refine rp_iload 4 dR_91 rfl ?_
      exact rp_puR (rr_ret dR_93)
    · exact rp_puR (rr_throw hl (Nat.le_refl _) (Nat.zero_le _) dR_83 dR_86 dR_87 dR_90)
  refine rp_iload_n 0 dR_47 rfl ?_
  refine rp_iload_n 1 dR_48 rfl ?_
  refine rp_iload_n 2 dR_49 rfl ?_
  refine rp_iload 5 dR_50 rfl ?_
  refine rp_callSz [.int p1, .int p2, .int p3, .int s5.2] (SX11_isRest (hn := hn) p1 p2 p3 s5.2) csX11_isRest (mw (i := 1247) (by decide +kernel)) (by omega) rfl rfl (Nat.le_of_ble_eq_true rfl) dR_52 (fun x4 => ?_)
  refine rp_if_eq 71 dR_55 (by decide) ?_ ?_
  · refine rp_iinc (fun y => [(6, .int y), (1, .int p1), (2, .int p2), (3, .int p3), (4, .int p4), (5, .int s5.1)]) 5 dR_71 rfl rfl (by decide) (fun y => rfl) (fun y => ?_)
    refine rp_goto 41 dR_74 (by decide) ?_
    exact rp_sub [1, 2, 3, 4, 5, 0] rfl (ih41 (s5.1, y))
  refine rp_iload 4 dR_58 rfl ?_
  refine rp_iload 3 dR_60 rfl ?_
  refine rp_icmp_ne 68 dR_62 (by decide) ?_ ?_
  · refine rp_iinc (fun y => [(5, .int y), (1, .int p1), (2, .int p2), (3, .int p3), (4, .int p4), (6, .int s5.2)]) 4 dR_68 rfl rfl (by decide) (fun y => rfl) (fun y => ?_)
    refine rp_iinc (fun y2 => [(6, .int y2), (5, .int y), (1, .int p1), (2, .int p2), (3, .int p3), (4, .int p4)]) 5 dR_71 rfl rfl (by decide) (fun y => rfl) (fun y2 => ?_)
    refine rp_goto 41 dR_74 (by decide) ?_
    exact rp_sub [2, 3, 4, 5, 1, 0] rfl (ih41 (y, y2))
  · refine rp_iload 5 dR_65 rfl ?_
    exact rp_puR (rr_ret dR_67)
/-! ===== .. as a contract ===== -/
abbrev rmR : Room := { frames := 8, cells := 1, slots := 6, locals := 256 }
theorem SX11_rests {l : Launch} {K : KK} {n : Nat} (hn : 270 ≤ n) (hl : l.stackTraces = false) (p1 p2 p3 p4 : Int32) {σ σ' : MM} {r : Option Int32} (h : FX11_rests p1 p2 p3 p4 σ = some (r, σ')) : vx_Met l yX11_rests (mws mX11_rests) rmR (va_Pc [.ref (K.2.1 + 0), .int p1, .int p2, .int p3, .int p4] (fun U => KU K U ∧ va_P K.1 cl0 (wl K n σ) U.heap)) (QR K n (fun v σ2 => v = enR r ∧ σ2 = σ')) (XR K n (fun v σ2 => v = enR r ∧ σ2 = σ')) 1 6 (AA K) := by
  refine vx_ofW (cc := cX11_rests) (maxL := 7) (ret := some .int) (by decide) rfl ?_
  intro p e s m args below meth c s₁ B hml htab hv
  obtain ⟨rfl, hU, hP⟩ := hv
  have hts := atoms_spec (ws := mws mX11_rests) B.pre
  have hown : s.vm.findClass RX11 = some m.cls := findClass_of_methodNamed B.named
  have hl2 := lv_entry [.ref (K.2.1 + 0), .int p1, .int p2, .int p3, .int p4] (n := 7) (Nat.le_of_ble_eq_true rfl)
  rw [lg_entry_eq]
  have hW := RX11_rests hn hl p1 p2 p3 p4 (K.2.1 + 0) σ r σ' h p e rmR s m _ below meth c ⟨B.exec, B.bytes, B.returns, hml, hown, hts, B.notSynchronized, hU, ⟨Nat.le_refl _, Nat.le_refl _, Nat.zero_le _, Nat.zero_le _⟩, hn⟩ s.heap [] _ hP va_S.rf hl2
  intro T hT X
  obtain ⟨t, a1, b1⟩ := hW T hT X
  rcases b1 with b1 | b1
  · exact absurd ⟨Nat.le_refl _, Nat.le_refl _, m, X.frames, B.named⟩ b1
  · exact ⟨t, a1, b1⟩
