section KUS
variable {s : State} {b : Nat}
theorem ku_cls (hts : ∀ w ∈ lw_tbl, w.before #[Value.ref b] s = true) : ∃ D : va_G, ∀ (c : Nat) (q : vw_C), cl0[c]? = some q → u_Kn s q.1 q.2.1 q.2.2 (D.1 c) (D.2 c) := by
  have hl : ∀ w ∈ lg, w.before #[Value.ref b] s = true := fun w h => hts w (tb_lg w h)
  have key : ∀ (ci : Nat) (C : String), KC ci C → ∃ x : ClassId × (Nat → Nat), ∀ q, cl0[ci]? = some q → u_Kn s q.1 q.2.1 q.2.2 x.1 x.2 := by
    rintro ci C ⟨T, N, ty, h1, -, h3, -, h5, -⟩
    obtain ⟨c, iS, h⟩ := u_known (C := C) (T := T) (N := N) (n := N) hl h3 (hl _ h5)
    refine ⟨(c, iS), fun q hq => ?_⟩
    cases h1.symm.trans hq
    exact h
  have all : ∀ ci : Nat, ∃ x : ClassId × (Nat → Nat), ∀ q, cl0[ci]? = some q → u_Kn s q.1 q.2.1 q.2.2 x.1 x.2 := by
    intro ci
    match ci with
    | 0 => exact key 0 _ kcX0
    | 1 => exact key 1 _ kcX1
    | 2 => exact key 2 _ kcX2
    | 3 => exact key 3 _ kcX3
    | 4 => exact key 4 _ kcX4
    | 5 => exact key 5 _ kcX5
    | 6 => exact key 6 _ kcX6
    | 7 => exact key 7 _ kcX7
    | 8 => exact key 8 _ kcX8
    | 9 => exact key 9 _ kcX9
    | 10 => exact key 10 _ kcX11
    | 11 => exact key 11 _ kcX12
    | n + 12 => exact ⟨(0, fun _ => 0), fun q hq => by simp [cl0] at hq⟩
  obtain ⟨f, hf⟩ := Classical.axiomOfChoice all
  exact ⟨(fun c => (f c).1, fun c => (f c).2), hf⟩
theorem ku_ao (hts : ∀ w ∈ lw_tbl, w.before #[Value.ref b] s = true) : AO s := ⟨va_AO.of (hts _ (by decide +kernel)), va_AO.of (hts _ (by decide +kernel)), hts (Cond.arrayOver (.array .int)) (by decide +kernel)⟩
theorem ku_arr (hts : ∀ w ∈ lw_tbl, w.before #[Value.ref b] s = true) : ∃ f : Nat → ClassId, ∀ (k : Nat) (q : ClassId × FieldType), ([(f 0, .int), (f 1, .long), (f 2, .char), (f 3, .boolean), (f 4, .object RX4), (f 5, .object RX1), (f 6, .array .int)] : List (ClassId × FieldType))[k]? = some q → ArrOfT s q.1 q.2 ∧ va_RA s q.1 q.2 := by
  have prim : ∀ ty : FieldType, (Cond.arrayClass ty).before #[Value.ref b] s = true → ∃ c, ArrOfT s c ty ∧ s.vm.findClass ("[" ++ ty.toString) = some c := by
    intro ty h
    obtain ⟨c, k, comp, h1, h2, h3⟩ := Cond.arrayClass_spec h
    exact ⟨c, fun N z => ⟨fun k h => (by cases h), k, h2, comp, h3⟩, h1⟩
  have obj : ∀ C : String, va_AO C s → ∃ c, ArrOfT s c (.object C) ∧ va_RA s c (.object C) := by
    intro C h
    obtain ⟨comp, c, k, h1, -, h3, h4, h5⟩ := Cond.arrayOver_spec h
    exact ⟨c, fun N z => ⟨fun k h => (by cases h), k, h3, comp, h4⟩, k, comp, h3, h4, h1, h5⟩
  obtain ⟨c0, a0, r0⟩ := prim .int (hts _ (by decide +kernel))
  obtain ⟨c1, a1, r1⟩ := prim .long (hts _ (by decide +kernel))
  obtain ⟨c2, a2, r2⟩ := prim .char (hts _ (by decide +kernel))
  obtain ⟨c3, a3, r3⟩ := prim .boolean (hts _ (by decide +kernel))
  have ao := ku_ao hts
  obtain ⟨c4, a4, r4⟩ := obj RX4 ao.1
  obtain ⟨c5, a5, r5⟩ := obj RX1 ao.2.1
  obtain ⟨comp, c6, k6, h1, -, h3, h4, h5⟩ := arrayOverA_spec ao.2.2
  refine ⟨fun k => if k = 0 then c0 else if k = 1 then c1 else if k = 2 then c2 else if k = 3 then c3 else if k = 4 then c4 else if k = 5 then c5 else c6, fun k q hq => ?_⟩
  match k, hq with
  | 0, hq => cases hq; exact ⟨a0, r0⟩
  | 1, hq => cases hq; exact ⟨a1, r1⟩
  | 2, hq => cases hq; exact ⟨a2, r2⟩
  | 3, hq => cases hq; exact ⟨a3, r3⟩
  | 4, hq => cases hq; exact ⟨a4, r4⟩
  | 5, hq => cases hq; exact ⟨a5, r5⟩
  | 6, hq => cases hq; exact ⟨fun N z => ⟨fun k h => (by cases h), k6, h3, comp, h4⟩, h5⟩
  | k + 7, hq => simp at hq
set_option maxHeartbeats 4000000 in
theorem ku_start (hts : ∀ w ∈ lw_tbl, w.before #[Value.ref b] s = true) (hgv : (Jvm.Cond.and given_1 narrow_1).before #[Value.ref b] s = true) : ∃ K : KK, K.2.1 = s.heap.size ∧ KU K s := by
  have hs : ∀ w ∈ fG, w.before #[Value.ref b] s = true := flat_of_before _ hgv
  have hA : ∀ a : Nat, a < s.heap.size → ¬ (fun q : Nat => s.heap.size ≤ q) a := fun a h => Nat.not_le.mpr h
  obtain ⟨D, hD⟩ := ku_cls hts
  obtain ⟨fa, hfa⟩ := ku_arr hts
  -- the words
  have hev0 : ∀ i, i < 23 → ∃ a : Nat, (wst1 i).eval #[Value.ref b] s none [] s = some (.ref a) := fun i hi => by
    obtain ⟨a, c, cell, k, q1, -⟩ := Cond.exactly_spec (hs _ (fg_ex i hi))
    exact ⟨a, q1⟩
  obtain ⟨adE, hE, hEv⟩ := va_Enof2 (args := #[Value.ref b]) (s := s) (E := eW) (d := dW) (nm := wnm) (F := [(eW, "group", "I", wgr), (eW, "value", "I", wva)]) (A := fun q : Nat => s.heap.size ≤ q) (fun i hi => hts _ (wl_st i (by rw [nm_len] at hi; exact hi))) (hts _ (by decide +kernel)) (fun i hi => hs _ (fg_ex i (by rw [nm_len] at hi; exact hi)))
    (fun q hq i hi => by
      rw [nm_len] at hi
      rcases List.mem_cons.mp hq with rfl | hq
      · exact hs _ (fg_gr i hi)
      · rcases List.mem_cons.mp hq with rfl | hq
        · exact hs _ (fg_va i hi)
        · cases hq)
    (fun i j hi hj hij => by
      rw [nm_len] at hi hj
      obtain ⟨a, ha⟩ := hev0 i hi
      obtain ⟨c, hc⟩ := hev0 j hj
      refine Or.inl (neq_of ha hc (fun e => ?_))
      subst e
      have e1 := va_eqt (hs _ (fg_or i hi))
      have e2 := va_eqt (hs _ (fg_or j hj))
      rw [va_fe ha] at e1
      rw [va_fe hc, e1] at e2
      first
        | exact lit_i i hi j hj hij (by have e3 : (some (Value.int (Int32.ofNat i)) : Option Value) = some (Value.int (Int32.ofNat j)) := e2; exact Value.int.inj (Option.some.inj e3))
        | exact lit_i i hi j hj hij (by have e3 : (some (Value.int (Int32.ofNat j)) : Option Value) = some (Value.int (Int32.ofNat i)) := e2; exact (Value.int.inj (Option.some.inj e3)).symm)) hA
  -- their texts
  have hsv0 : ∀ i, i < 24 → ∃ a : Nat, (wtm i).eval #[Value.ref b] s none [] s = some (.ref a) := fun i hi => by
    obtain ⟨a, c, cell, k, q1, -⟩ := Cond.exactly_spec (hs _ (fg_sx i hi))
    exact ⟨a, q1⟩
  obtain ⟨adK, adV, hK, hKv⟩ := vk_Sof (args := #[Value.ref b]) (s := s) (N := 24) (tm := wtm) (len := sln) (byt := sby) (A := fun q : Nat => s.heap.size ≤ q) (by decide +kernel) (fun i hi => hs _ (fg_sx i hi)) (fun i hi => hs _ (fg_sc i hi)) (fun i hi => hs _ (fg_sa i hi)) (fun i hi => hs _ (fg_sl i hi)) (fun i hi j hj => hs _ (fg_se i hi j hj))
    (fun i j hi hj hij => by
      obtain ⟨a, ha⟩ := hsv0 i hi
      obtain ⟨c, hc⟩ := hsv0 j hj
      refine Or.inl (neq_of ha hc (fun e => ?_))
      subst e
      have e0 : (wtm i).eval #[Value.ref b] s none [] s = (wtm j).eval #[Value.ref b] s none [] s := ha.trans hc.symm
      rcases sb_ne i hi j hj hij with h | ⟨k, hk1, hk2, h⟩
      · have e1 := va_eqt (hs _ (fg_sl i hi))
        have e2 := va_eqt (hs _ (fg_sl j hj))
        simp only [Term.eval, ha] at e1
        simp only [Term.eval, hc] at e2
        rw [e1] at e2
        simp at e2
        exact h e2
      · have e1 := va_eqt (hs _ (fg_se i hi k hk1))
        have e2 := va_eqt (hs _ (fg_se j hj k hk2))
        simp only [Term.eval, ha] at e1
        simp only [Term.eval, hc] at e2
        rw [e1] at e2
        simp at e2
        exact h e2) hA
  -- the arrays
  obtain ⟨tA, hA1, hA2⟩ := va_Tof (args := #[Value.ref b]) (s := s) (tm := .static eW "ALL" "[LLaundrySky$Word;") (ty := .object eW) (N := 23) (f := fun j => .ref (adE j)) (A := fun q : Nat => s.heap.size ≤ q) (by decide) (hs _ (by decide +kernel)) (va_eqt (hs _ (by decide +kernel))) (fun j hj => va_eqv (hs _ (fg_al j hj)) (hEv j (by rw [nm_len]; exact hj))) hA
  obtain ⟨tR, hR1, hR2⟩ := va_Tof (args := #[Value.ref b]) (s := s) (tm := .static "LaundrySky" "RANKS" "[I") (ty := .int) (N := 4) (f := fun j => .int (([2, 3, 0, 1] : List Int32).getD j 0)) (A := fun q : Nat => s.heap.size ≤ q) (by decide) (hs _ (by decide +kernel)) (va_eqt (hs _ (by decide +kernel))) (fun j hj => va_eqt (hs _ (fg_ra j hj))) hA
  obtain ⟨ad, g1, g2, g3, g4, g5⟩ : ∃ ad : Nat → Nat, (∀ i, i < 23 → ad i = adE i) ∧ (∀ i, i < 24 → ad (100 + i) = adK i) ∧ (∀ i, i < 24 → ad (200 + i) = adV i) ∧ ad 300 = tR ∧ ad 301 = tA := by
    refine ⟨fun k => if k < 100 then adE k else if k < 200 then adK (k - 100) else if k < 300 then adV (k - 200) else if k = 300 then tR else tA, fun i hi => ?_, fun i hi => ?_, fun i hi => ?_, rfl, rfl⟩
    · show (if i < 100 then adE i else _) = _
      rw [if_pos (by omega)]
    · show (if 100 + i < 100 then _ else if 100 + i < 200 then adK (100 + i - 100) else _) = _
      rw [if_neg (by omega), if_pos (by omega), Nat.add_sub_cancel_left]
    · show (if 200 + i < 100 then _ else if 200 + i < 200 then _ else if 200 + i < 300 then adV (200 + i - 200) else _) = _
      rw [if_neg (by omega), if_neg (by omega), if_pos (by omega), Nat.add_sub_cancel_left]
  refine ⟨(D, s.heap.size, fa, ad), rfl, ⟨hD, hfa⟩, ?_, ?_, ?_, ?_, ?_, ?_, ?_, ?_, ?_, ⟨?_, ?_, ?_⟩, ?_, ?_⟩
  · refine ⟨fun i hi => ?_, fun i j hi hj e => ?_⟩
    · have hh := hE.1 i hi
      rw [← g1 i (by rw [nm_len] at hi; exact hi)] at hh
      exact hh
    · refine hE.2 i j hi hj ?_
      rw [← g1 i (by rw [nm_len] at hi; exact hi), ← g1 j (by rw [nm_len] at hj; exact hj)]
      exact e
  · intro i hi
    have := va_Efof (args := #[Value.ref b]) (s := s) (N := 23) (E := eW) (d0 := dW) (o := eW) (n := "text") (d := "Ljava/lang/String;") (nm := wnm) (v := fun i => .ref (adK i)) (tm := wtm) (ad := adE) (A := fun q : Nat => s.heap.size ≤ q) (fun i hi => hEv i (by rw [nm_len]; exact hi)) (fun i hi => hs _ (fg_tx i hi)) (fun i hi => hKv i (by omega)) hA i hi
    show va_OF eW "text" "Ljava/lang/String;" (.ref (ad (100 + i))) (ad i) _ s s.heap
    rw [g1 i hi, g2 i (by omega)]
    exact this
  · refine ⟨fun i hi => ?_, fun i j hi hj e => ?_⟩
    · show va_O "java/lang/String" (ad (100 + i)) _ s s.heap ∧ va_OF "java/lang/String" "coder" "B" (.int 0) (ad (100 + i)) _ s s.heap ∧ va_OF "java/lang/String" "value" "[B" (.ref (ad (200 + i))) (ad (100 + i)) _ s s.heap ∧ va_T .byte (ad (200 + i)) (sln.getD i 0) (fun j => .int ((sby.getD i []).getD j 0)) _ s s.heap
      rw [g2 i hi, g3 i hi]
      exact hK.1 i hi
    · refine hK.2 i j hi hj ?_
      rw [← g2 i hi, ← g2 j hj]
      exact e
  · show va_Z "LaundrySky" "RANKS" "[I" (.ref (ad 300)) _ s s.heap
    rw [g4]
    exact va_Zof (hts _ (by decide +kernel)) (hts _ (by decide +kernel)) hR1 hA
  · show va_T .int (ad 300) 4 _ _ s s.heap
    rw [g4]
    exact hR2
  · show va_Z eW "ALL" "[LLaundrySky$Word;" (.ref (ad 301)) _ s s.heap
    rw [g5]
    exact va_Zof (hts _ (by decide +kernel)) (hts _ (by decide +kernel)) hA1 hA
  · show va_T (.object eW) (ad 301) 23 (fun j => .ref (ad j)) _ s s.heap
    rw [g5]
    obtain ⟨cell, q1, q2, q3, q4, q5, q6, q7⟩ := hA2
    exact ⟨cell, q1, q2, q3, q4, q5, fun j hj => by show cell.slots[j]? = some (.ref (ad j)); rw [g1 j hj]; exact q6 j hj, q7⟩
  · show vk_R "LaundrySky$Tape" 61 "()<=+-*;" (ad 123) s
    rw [show (123 : Nat) = 100 + 23 from rfl, g2 23 (by decide)]
    exact vk_R.of (hts _ (by decide +kernel)) (hKv 23 (by decide))
  · exact va_Zof (hts _ (by decide +kernel)) (hts _ (by decide +kernel)) (va_eqt (hs _ (by decide +kernel))) hA
  · exact va_Zqof (hts _ (by decide +kernel)) (hts _ (by decide +kernel)) (hs _ (by decide +kernel)) hA
  · exact vx_Zqof (hts _ (by decide +kernel)) (hts _ (by decide +kernel)) (hs _ (by decide +kernel)) hA
  · exact vx_Zqof (hts _ (by decide +kernel)) (hts _ (by decide +kernel)) (hs _ (by decide +kernel)) hA
  · intro q hq
    rcases List.mem_cons.mp hq with rfl | hq
    · exact va_Nw.of rfl (hts _ (by decide +kernel))
    · rcases List.mem_cons.mp hq with rfl | hq
      · exact va_Nw.of rfl (hts _ (by decide +kernel))
      · rcases List.mem_cons.mp hq with rfl | hq
        · exact va_Nw.of rfl (hts _ (by decide +kernel))
        · cases hq
  · intro q hq
    rcases List.mem_cons.mp hq with rfl | hq
    · exact va_Nw.of rfl (hts _ (by decide +kernel))
    · rcases List.mem_cons.mp hq with rfl | hq
      · exact va_Nw.of rfl (hts _ (by decide +kernel))
      · rcases List.mem_cons.mp hq with rfl | hq
        · exact va_Nw.of rfl (hts _ (by decide +kernel))
        · rcases List.mem_cons.mp hq with rfl | hq
          · exact va_Nw.of rfl (hts _ (by decide +kernel))
          · rcases List.mem_cons.mp hq with rfl | hq
            · exact va_Nw.of rfl (hts _ (by decide +kernel))
            · rcases List.mem_cons.mp hq with rfl | hq
              · exact va_Nw.of rfl (hts _ (by decide +kernel))
              · cases hq
end KUS
