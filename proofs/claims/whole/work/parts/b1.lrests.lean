/-! ===== the law's own rests: it catches ===== -/
abbrev hhL : List (Nat × Nat × Nat × Nat) := [((0 : Nat), (14 : Nat), (17 : Nat), (13 : Nat))]
abbrev wsL : List Cond := Cond.codeWith yL_rests cL_rests 7 (some .int) hhL :: lg
abbrev rmL : Room := { frames := 10, cells := 1, slots := 6, locals := 320 }
abbrev xL : ExceptionTableEntry := ⟨0, 14, 17, 13⟩
theorem dLR_0 : decode cL_rests 0 = .ok (.aload 5, 2) := by decide +kernel
theorem dLR_2 : decode cL_rests 2 = .ok (.iconst 0, 1) := by decide +kernel
theorem dLR_3 : decode cL_rests 3 = .ok (.aload_n 0, 1) := by decide +kernel
theorem dLR_4 : decode cL_rests 4 = .ok (.iload_n 1, 1) := by decide +kernel
theorem dLR_5 : decode cL_rests 5 = .ok (.iload_n 2, 1) := by decide +kernel
theorem dLR_6 : decode cL_rests 6 = .ok (.iload_n 3, 1) := by decide +kernel
theorem dLR_7 : decode cL_rests 7 = .ok (.iload 4, 2) := by decide +kernel
theorem dLR_9 : decode cL_rests 9 = .ok (.invokevirtual 7, 3) := by decide +kernel
theorem dLR_12 : decode cL_rests 12 = .ok (.i2l, 1) := by decide +kernel
theorem dLR_13 : decode cL_rests 13 = .ok (.lastore, 1) := by decide +kernel
theorem dLR_14 : decode cL_rests 14 = .ok (.goto 7, 3) := by decide +kernel
theorem dLR_17 : decode cL_rests 17 = .ok (.astore 6, 2) := by decide +kernel
theorem dLR_19 : decode cL_rests 19 = .ok (.iconst 1, 1) := by decide +kernel
theorem dLR_20 : decode cL_rests 20 = .ok (.ireturn, 1) := by decide +kernel
theorem dLR_21 : decode cL_rests 21 = .ok (.iconst 0, 1) := by decide +kernel
theorem dLR_22 : decode cL_rests 22 = .ok (.ireturn, 1) := by decide +kernel
theorem ce270 {K : KK} {σ : MM} : ce K σ 270 = .inl (K.2.2.1 1, 1, .inr (.inl (fun j => σ.2.1 270 j))) := by
  have h : sh 270 = (101, 1) := by decide
  unfold ce
  rw [h]
  rfl
theorem wl270 {K : KK} {σ : MM} : (wl K 271 σ)[270]? = some (K.2.1 + 270, .inl (K.2.2.1 1, 1, .inr (.inl (fun j => σ.2.1 270 j)))) := by rw [wl_at (by decide), ce270]
def rcd (r : Option Int32) : Int32 := match r with
  | some _ => 0
  | none => 1
def rst (r : Option Int32) (σ : MM) : MM := match r with
  | some i => (σ.1, up2 σ.2.1 270 0 i.toInt64, σ.2.2)
  | none => σ
theorem wl_put {K : KK} {σ : MM} {x : Int64} : (wl K 271 σ).set 270 (K.2.1 + 270, .inl (K.2.2.1 1, 1, .inr (.inl (vp_updL (fun j => σ.2.1 270 j) (0 : Int32).toNatClampNeg x)))) = wl K 271 (σ.1, up2 σ.2.1 270 0 x, σ.2.2) := by
  refine wl_set (by decide) ?_ (fun b _ hb2 => ce_oL hb2)
  rw [ce270]
  simp only [up2_row]
  rfl
set_option maxHeartbeats 4000000 in
theorem SL_rests {l : Launch} {K : KK} (hl : l.stackTraces = false) (p1 p2 p3 p4 : Int32) {σ σ' : MM} {r : Option Int32} (h : FX11_rests p1 p2 p3 p4 σ = some (r, σ')) : vx_Met l yL_rests wsL rmL (va_Pc [.ref (K.2.1 + 0), .int p1, .int p2, .int p3, .int p4, .ref (K.2.1 + 270)] (fun U => KU K U ∧ va_P K.1 cl0 (wl K 271 σ) U.heap)) (QC K 271 (fun v σ2 => v = some (.int (rcd r)) ∧ σ2 = rst r σ')) (fun _ _ _ => False) 1 6 (AA K) := by
  have hn : 270 ≤ 271 := by decide
  refine vx_ofWH (cc := cL_rests) (maxL := 7) (ret := some .int) (hh := hhL) (ws' := lg) (by decide) rfl ?_
  intro p e s m args below meth c s₁ B hml hv
  obtain ⟨rfl, hU, hP⟩ := hv
  have hts := atoms_spec (ws := wsL) B.pre
  have hw : ∀ w ∈ lg, w.before ([.ref (K.2.1 + 0), .int p1, .int p2, .int p3, .int p4, .ref (K.2.1 + 270)] : List Value).toArray s = true := fun w q => hts w (List.mem_cons_of_mem _ q)
  have hown : s.vm.findClass RL = some m.cls := findClass_of_methodNamed B.named
  have htab : c.exceptionTable.toList = [] ++ xL :: [] := vx_table (x := yL_rests) B (hts _ List.mem_cons_self)
  have hl2 : lv_has ((lg_sl ([.ref (K.2.1 + 0), .int p1, .int p2, .int p3, .int p4, .ref (K.2.1 + 270)] : List Value) ++ List.replicate (7 - (lg_sl ([.ref (K.2.1 + 0), .int p1, .int p2, .int p3, .int p4, .ref (K.2.1 + 270)] : List Value)).length) Slot.unset).toArray) 7 [(0, .ref (K.2.1 + 0)), (1, .int p1), (2, .int p2), (3, .int p3), (4, .int p4), (5, .ref (K.2.1 + 270))] := lv_entry [.ref (K.2.1 + 0), .int p1, .int p2, .int p3, .int p4, .ref (K.2.1 + 270)] (n := 7) (Nat.le_of_ble_eq_true rfl)
  rw [lg_entry_eq]
  generalize ((lg_sl ([.ref (K.2.1 + 0), .int p1, .int p2, .int p3, .int p4, .ref (K.2.1 + 270)] : List Value) ++ List.replicate (7 - (lg_sl ([.ref (K.2.1 + 0), .int p1, .int p2, .int p3, .int p4, .ref (K.2.1 + 270)] : List Value)).length) Slot.unset).toArray) = ls at hl2 ⊢
  refine lv_aload B.exec B.bytes dLR_0 (lv_at hl2 5 rfl) ?_
  refine lv_iconst (v := 0) B.exec B.bytes dLR_2 (by decide) ?_
  refine lv_aload_n B.exec B.bytes dLR_3 rfl (lv_at hl2 0 rfl) ?_
  refine lv_iload_n B.exec B.bytes dLR_4 rfl (lv_at hl2 1 rfl) ?_
  refine lv_iload_n B.exec B.bytes dLR_5 rfl (lv_at hl2 2 rfl) ?_
  refine lv_iload_n B.exec B.bytes dLR_6 rfl (lv_at hl2 3 rfl) ?_
  refine lv_iload B.exec B.bytes dLR_7 (lv_at hl2 4 rfl) ?_
  have hrecv := va_recv (q := (RX11, _)) hU.1 hP (by rfl) (wl_ob hn o0 (by decide))
  have hG : GoodIn wsL (mws mX11_rests) := by
    intro w q
    rcases List.mem_cons.mp q with rfl | q
    · exact ⟨List.mem_cons_of_mem _ cvX11_rests.1.1, good_of_word (List.all_eq_true.mp good_tbl _ cvX11_rests.1.1)⟩
    · exact ⟨List.mem_cons_of_mem _ q, good_of_word (List.all_eq_true.mp good_tbl _ q)⟩
  have hrun := vx_runV (g := F0 m 9 _ _) (As := [.int p1, .int p2, .int p3, .int p4]) (rest := [.int 0, .ref (K.2.1 + 270)]) (nL := 7) (Ts := wsL) (own := RL) (C := RX11) (b := K.2.1 + 0) (index := 7) (H := s.heap) (locs := []) (cells := 0) (slots := 0) (e := e) (R := rmL) (below := below) (meth := meth) ⟨B.exec, B.bytes, hml, hown, hts⟩ (SX11_rests hn hl p1 p2 p3 p4 h)
    ⟨callB_of (ws' := lg) 4 hts hG rfl rfl rfl (hw _ cvX11_rests.1.2.1) (hw _ (mw (i := 1179) (by decide +kernel))) cvX11_rests.1.2.2.1 ⟨by decide, by decide⟩, hw _ cvX11_rests.2.1, hw _ cvX11_rests.2.2⟩
    ⟨ct_blind, hrecv, fun U hU2 hW2 => ⟨rfl, hU.mv va_S.rf hU2 hW2, by rw [hU2]; exact hP⟩⟩ rfl rfl hl2.1 rfl (lv_room (Nat.le_of_ble_eq_true rfl)) dLR_9 ⟨Nat.le_refl _, Nat.le_refl _⟩
  intro T hT X
  rcases hrun T hT X with ⟨v, st₀, t, T', L, h0, X', hL, e1, e2, ⟨⟨v2, σ2, hv, ⟨⟨i, hvi⟩, hq1, hq2⟩, hP'⟩, hF⟩, stp⟩ | ⟨q, st₀, t, T', L, E, ce, h0, X', hL, e1, e2, ⟨hE, ⟨σ2, ⟨hq1, hq2⟩, hP'⟩, hF⟩, hce, hcv, hcl, stp⟩
  · cases hv
    subst hvi
    subst hq2
    have hr : r = some i := by
      cases r with
      | none => cases hq1
      | some j => injection hq1 with q1; injection q1 with q2; rw [q2]
    subst hr
    have hS' := (vx_keep h0 e1 va_S.rf (fun q _ z => z) (fun q z => z) hL hF).2.2
    rw [← e1] at hP'
    have kk : W p l e rmL s m ([.ref (K.2.1 + 0), .int p1, .int p2, .int p3, .int p4, .ref (K.2.1 + 270)] : List Value).toArray below meth c T'.heap ([] ++ L) (0 + 1) (0 + 6) (vx_MQ below (QC K 271 (fun v σ3 => v = some (.int (rcd (some i))) ∧ σ3 = rst (some i) σ2)) (fun _ _ _ => False) ([.ref (K.2.1 + 0), .int p1, .int p2, .int p3, .int p4, .ref (K.2.1 + 270)] : List Value).toArray s 1 6 (AA K)) (F0 m 12 ls [.int i, .int 0, .ref (K.2.1 + 270)]) := by
      refine lv_i2l B.exec B.bytes dLR_12 rfl ?_
      refine va_last B.exec B.bytes hU.1 hP' (wl_D K 271 _) hS' 270 1 wl270 rfl (by unfold vp_in; decide) dLR_13 (fun H1 locs1 hP1 hD1 hS1 => ?_)
      rw [wl_put] at hP1
      refine lv_goto (tgt := 21) B.exec B.bytes dLR_14 (by decide) ?_
      refine lv_iconst (v := 0) B.exec B.bytes dLR_21 (by decide) ?_
      exact vx_ret (W.iret (hlocks := B.notSynchronized) B.exec B.bytes B.returns (fun t ht hW => ⟨⟨_, _, rfl, ⟨rfl, rfl⟩, by rw [ht]; exact hP1⟩, hS1.F ht⟩) hS1.2.2 dLR_22)
    obtain ⟨t2, a1, b1⟩ := kk T' rfl X'
    exact ⟨t2, stp t2 a1, b1⟩
  · subst hE
    subst hq2
    have hr : r = none := by
      cases r with
      | none => rfl
      | some j => cases hq1
    subst hr
    have hS' := (vx_keep h0 e1 va_S.rf (fun q _ z => z) (fun q z => z) hL hF).2.2
    rw [← e1] at hP'
    have kk : vx_W p l e rmL s m ([.ref (K.2.1 + 0), .int p1, .int p2, .int p3, .int p4, .ref (K.2.1 + 270)] : List Value).toArray below meth c T'.heap ([] ++ L) (0 + 1) (0 + 6) (vx_MQ below (QC K 271 (fun v σ3 => v = some (.int (rcd none)) ∧ σ3 = rst none σ2)) (fun _ _ _ => False) ([.ref (K.2.1 + 0), .int p1, .int p2, .int p3, .int p4, .ref (K.2.1 + 270)] : List Value).toArray s 1 6 (AA K)) (F0 m 9 ls [.int 0, .ref (K.2.1 + 270)]) q := by
      refine ct_catch (name := nse) (own := RL) xL [] hown htab (by decide) (by decide) (hw _ (mw (i := 1178) (by decide +kernel))) (r_cast (n := 6) (hw _ (mw (i := 1187) (by decide +kernel)))) (by rw [e1]; exact hce) hcv hcl ?_
      refine lv_astore B.exec B.bytes dLR_17 hl2 (by decide) rfl (fun ls' hl3 => ?_)
      refine lv_iconst (v := 1) B.exec B.bytes dLR_19 (by decide) ?_
      exact vx_ret (W.iret (hlocks := B.notSynchronized) B.exec B.bytes B.returns (fun t ht hW => ⟨⟨_, _, rfl, ⟨rfl, rfl⟩, by rw [ht]; exact hP'⟩, hS'.F ht⟩) hS'.2.2 dLR_20)
    obtain ⟨t2, a1, b1⟩ := kk T' rfl X'
    exact ⟨t2, stp.trans a1, b1⟩
