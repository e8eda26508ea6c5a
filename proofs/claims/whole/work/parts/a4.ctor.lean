/-! ===== the constructors ===== -/
abbrev mX0_init : MI := (RX0, yX0_init, cX0_init, 1, none)
theorem dX0_init_0 : decode cX0_init 0 = .ok (.aload_n 0, 1) := by decide +kernel
theorem dX0_init_1 : decode cX0_init 1 = .ok (.invokespecial 3, 3) := by decide +kernel
theorem dX0_init_4 : decode cX0_init 4 = .ok (.aload_n 0, 1) := by decide +kernel
theorem dX0_init_5 : decode cX0_init 5 = .ok (.sipush 1000, 3) := by decide +kernel
theorem dX0_init_8 : decode cX0_init 8 = .ok (.newarray .int, 2) := by decide +kernel
theorem dX0_init_10 : decode cX0_init 10 = .ok (.putfield 9, 3) := by decide +kernel
theorem dX0_init_13 : decode cX0_init 13 = .ok (.aload_n 0, 1) := by decide +kernel
theorem dX0_init_14 : decode cX0_init 14 = .ok (.bipush 24, 2) := by decide +kernel
theorem dX0_init_16 : decode cX0_init 16 = .ok (.newarray .int, 2) := by decide +kernel
theorem dX0_init_18 : decode cX0_init 18 = .ok (.putfield 15, 3) := by decide +kernel
theorem dX0_init_21 : decode cX0_init 21 = .ok (.return_, 1) := by decide +kernel
theorem ccX0_init : CC mX0_init 0 := ⟨mw (i := 90) (by decide +kernel), mw (i := 4) (by decide +kernel), ⟨by decide +kernel, by decide +kernel, by decide +kernel⟩, by decide⟩
theorem imX0_init : Cond.instanceMethod yX0_init ∈ lg := mw (i := 89) (by decide +kernel)
theorem kcX0 : KC 0 RX0 := ⟨TX0, 3, tyX0, rfl, rfl, iwX0, tyX0_ok, mw (i := 87) (by decide +kernel), mw (i := 4) (by decide +kernel), fun j hj => by
  rcases (show j = 0 ∨ j = 1 ∨ j = 2 by omega) with rfl | rfl | rfl <;> rfl⟩
theorem ffX0_0 : FF0 0 0 RX0 := ⟨.array .int, fun _ => ⟨rfl, rfl⟩, by
  intro C T N h
  cases h
  exact ⟨by decide +kernel, rfl, rfl⟩⟩
theorem ffX0_1 : FF0 0 1 RX0 := ⟨.array .int, fun _ => ⟨rfl, rfl⟩, by
  intro C T N h
  cases h
  exact ⟨by decide +kernel, rfl, rfl⟩⟩
def tX0 (τ : TT) (a : Nat) : TT := st2 (st2 (τ) (a) 0) (a) 1
abbrev okX0 (a : Nat) : Prop := sh (a + 1 + 0) = (100 + 0, 1000) ∧ sh a = (0, 0) ∧ rf a 0 = a + 1 + 0 ∧ sh (a + 1 + 1) = (100 + 0, 24) ∧ rf a 1 = a + 1 + 1
theorem frX0 {σ : MM} {τ : TT} {a : Nat} (hF : Fr (a + 1) σ τ) : Fr (a + 1 + 2) (σ) (tX0 τ a) := by
  have hF1 : Fr (a + 1 + 1) (σ) (τ) := hF.mono (by omega)
  have hF2 : Fr (a + 1 + 1) (σ) (st2 (τ) (a) 0) := hF1.st (by omega)
  have hF3 : Fr (a + 1 + 2) (σ) (st2 (τ) (a) 0) := hF2.mono (by omega)
  have hF4 : Fr (a + 1 + 2) (σ) (st2 (st2 (τ) (a) 0) (a) 1) := hF3.st (by omega)
  exact hF4
set_option maxHeartbeats 4000000 in
set_option maxRecDepth 100000 in
theorem IX0 {l : Launch} {K : KK} {σ : MM} {τ : TT} {a : Nat} (h : okX0 a) (hF : Fr (a + 1) σ τ) : CI l K (a + 1) 2 1024 1 mX0_init [.ref (K.2.1 + a)] σ τ (σ) (tX0 τ a) := by
  obtain ⟨h_s1, h_s0, h_r0_0, h_s2, h_r0_1⟩ := h
  refine CI.of (by decide +kernel) rfl (Nat.le_of_ble_eq_true rfl) ?_
  show RN l K (a + 1) 1 2 1024 mX0_init _ 0 [(0, .ref (K.2.1 + a))] [] 0 0 σ τ
  refine rn_aload_n 0 dX0_init_0 rfl ?_
  refine rn_obj (mw (i := 91) (by decide +kernel)) (mw (i := 33) (by decide +kernel)) (mw (i := 34) (by decide +kernel)) (by decide) (by decide) dX0_init_1 ?_
  refine rn_aload_n 0 dX0_init_4 rfl ?_
  refine rn_sipush (nI 1000) dX0_init_5 (by decide) ?_
  refine rn_newa (t := 0) (N := 1000) (by decide) (mw (i := 104) (by decide +kernel)) h_s1 hF (by decide) (by decide) (by decide) (by decide) (by decide) dX0_init_8 ?_
  have hF1 : Fr (a + 1 + 1) (σ) (τ) := hF.mono (by omega)
  refine rn_putF fi_X0_9 ffX0_0 rfl h_s0 (by decide) (by omega) (by decide) (by rw [h_r0_0]) dX0_init_10 ?_
  have hF2 : Fr (a + 1 + 1) (σ) (st2 (τ) (a) 0) := hF1.st (by omega)
  refine rn_aload_n 0 dX0_init_13 rfl ?_
  refine rn_bipush (nI 24) dX0_init_14 (by decide) ?_
  refine rn_newa (t := 0) (N := 24) (by decide) (mw (i := 104) (by decide +kernel)) h_s2 hF2 (by decide) (by decide) (by decide) (by decide) (by decide) dX0_init_16 ?_
  have hF3 : Fr (a + 1 + 2) (σ) (st2 (τ) (a) 0) := hF2.mono (by omega)
  refine rn_putF fi_X0_15 ffX0_1 rfl h_s0 (by decide) (by omega) (by decide) (by rw [h_r0_1]) dX0_init_18 ?_
  have hF4 : Fr (a + 1 + 2) (σ) (st2 (st2 (τ) (a) 0) (a) 1) := hF3.st (by omega)
  exact rn_ret rfl dX0_init_21
abbrev mX3_init : MI := (RX3, yX3_init, cX3_init, 1, none)
theorem dX3_init_0 : decode cX3_init 0 = .ok (.aload_n 0, 1) := by decide +kernel
theorem dX3_init_1 : decode cX3_init 1 = .ok (.invokespecial 3, 3) := by decide +kernel
theorem dX3_init_4 : decode cX3_init 4 = .ok (.aload_n 0, 1) := by decide +kernel
theorem dX3_init_5 : decode cX3_init 5 = .ok (.bipush 40, 2) := by decide +kernel
theorem dX3_init_7 : decode cX3_init 7 = .ok (.newarray .int, 2) := by decide +kernel
theorem dX3_init_9 : decode cX3_init 9 = .ok (.putfield 9, 3) := by decide +kernel
theorem dX3_init_12 : decode cX3_init 12 = .ok (.aload_n 0, 1) := by decide +kernel
theorem dX3_init_13 : decode cX3_init 13 = .ok (.bipush 40, 2) := by decide +kernel
theorem dX3_init_15 : decode cX3_init 15 = .ok (.newarray .int, 2) := by decide +kernel
theorem dX3_init_17 : decode cX3_init 17 = .ok (.putfield 15, 3) := by decide +kernel
theorem dX3_init_20 : decode cX3_init 20 = .ok (.aload_n 0, 1) := by decide +kernel
theorem dX3_init_21 : decode cX3_init 21 = .ok (.bipush 40, 2) := by decide +kernel
theorem dX3_init_23 : decode cX3_init 23 = .ok (.newarray .int, 2) := by decide +kernel
theorem dX3_init_25 : decode cX3_init 25 = .ok (.putfield 18, 3) := by decide +kernel
theorem dX3_init_28 : decode cX3_init 28 = .ok (.aload_n 0, 1) := by decide +kernel
theorem dX3_init_29 : decode cX3_init 29 = .ok (.bipush 40, 2) := by decide +kernel
theorem dX3_init_31 : decode cX3_init 31 = .ok (.newarray .int, 2) := by decide +kernel
theorem dX3_init_33 : decode cX3_init 33 = .ok (.putfield 21, 3) := by decide +kernel
theorem dX3_init_36 : decode cX3_init 36 = .ok (.return_, 1) := by decide +kernel
theorem ccX3_init : CC mX3_init 0 := ⟨mw (i := 199) (by decide +kernel), mw (i := 6) (by decide +kernel), ⟨by decide +kernel, by decide +kernel, by decide +kernel⟩, by decide⟩
theorem imX3_init : Cond.instanceMethod yX3_init ∈ lg := mw (i := 198) (by decide +kernel)
theorem kcX3 : KC 3 RX3 := ⟨TX3, 7, tyX3, rfl, rfl, iwX3, tyX3_ok, mw (i := 196) (by decide +kernel), mw (i := 6) (by decide +kernel), fun j hj => by
  rcases (show j = 0 ∨ j = 1 ∨ j = 2 ∨ j = 3 ∨ j = 4 ∨ j = 5 ∨ j = 6 by omega) with rfl | rfl | rfl | rfl | rfl | rfl | rfl <;> rfl⟩
theorem ffX3_0 : FF0 3 0 RX3 := ⟨.array .int, fun _ => ⟨rfl, rfl⟩, by
  intro C T N h
  cases h
  exact ⟨by decide +kernel, rfl, rfl⟩⟩
theorem ffX3_1 : FF0 3 1 RX3 := ⟨.array .int, fun _ => ⟨rfl, rfl⟩, by
  intro C T N h
  cases h
  exact ⟨by decide +kernel, rfl, rfl⟩⟩
theorem ffX3_2 : FF0 3 2 RX3 := ⟨.array .int, fun _ => ⟨rfl, rfl⟩, by
  intro C T N h
  cases h
  exact ⟨by decide +kernel, rfl, rfl⟩⟩
theorem ffX3_3 : FF0 3 3 RX3 := ⟨.array .int, fun _ => ⟨rfl, rfl⟩, by
  intro C T N h
  cases h
  exact ⟨by decide +kernel, rfl, rfl⟩⟩
def tX3 (τ : TT) (a : Nat) : TT := st2 (st2 (st2 (st2 (τ) (a) 0) (a) 1) (a) 2) (a) 3
abbrev okX3 (a : Nat) : Prop := sh (a + 1 + 0) = (100 + 0, 40) ∧ sh a = (3, 0) ∧ rf a 0 = a + 1 + 0 ∧ sh (a + 1 + 1) = (100 + 0, 40) ∧ rf a 1 = a + 1 + 1 ∧ sh (a + 1 + 2) = (100 + 0, 40) ∧ rf a 2 = a + 1 + 2 ∧ sh (a + 1 + 3) = (100 + 0, 40) ∧ rf a 3 = a + 1 + 3
theorem frX3 {σ : MM} {τ : TT} {a : Nat} (hF : Fr (a + 1) σ τ) : Fr (a + 1 + 4) (σ) (tX3 τ a) := by
  have hF1 : Fr (a + 1 + 1) (σ) (τ) := hF.mono (by omega)
  have hF2 : Fr (a + 1 + 1) (σ) (st2 (τ) (a) 0) := hF1.st (by omega)
  have hF3 : Fr (a + 1 + 2) (σ) (st2 (τ) (a) 0) := hF2.mono (by omega)
  have hF4 : Fr (a + 1 + 2) (σ) (st2 (st2 (τ) (a) 0) (a) 1) := hF3.st (by omega)
  have hF5 : Fr (a + 1 + 3) (σ) (st2 (st2 (τ) (a) 0) (a) 1) := hF4.mono (by omega)
  have hF6 : Fr (a + 1 + 3) (σ) (st2 (st2 (st2 (τ) (a) 0) (a) 1) (a) 2) := hF5.st (by omega)
  have hF7 : Fr (a + 1 + 4) (σ) (st2 (st2 (st2 (τ) (a) 0) (a) 1) (a) 2) := hF6.mono (by omega)
  have hF8 : Fr (a + 1 + 4) (σ) (st2 (st2 (st2 (st2 (τ) (a) 0) (a) 1) (a) 2) (a) 3) := hF7.st (by omega)
  exact hF8
set_option maxHeartbeats 4000000 in
set_option maxRecDepth 100000 in
theorem IX3 {l : Launch} {K : KK} {σ : MM} {τ : TT} {a : Nat} (h : okX3 a) (hF : Fr (a + 1) σ τ) : CI l K (a + 1) 4 160 1 mX3_init [.ref (K.2.1 + a)] σ τ (σ) (tX3 τ a) := by
  obtain ⟨h_s1, h_s0, h_r0_0, h_s2, h_r0_1, h_s3, h_r0_2, h_s4, h_r0_3⟩ := h
  refine CI.of (by decide +kernel) rfl (Nat.le_of_ble_eq_true rfl) ?_
  show RN l K (a + 1) 1 4 160 mX3_init _ 0 [(0, .ref (K.2.1 + a))] [] 0 0 σ τ
  refine rn_aload_n 0 dX3_init_0 rfl ?_
  refine rn_obj (mw (i := 200) (by decide +kernel)) (mw (i := 33) (by decide +kernel)) (mw (i := 34) (by decide +kernel)) (by decide) (by decide) dX3_init_1 ?_
  refine rn_aload_n 0 dX3_init_4 rfl ?_
  refine rn_bipush (nI 40) dX3_init_5 (by decide) ?_
  refine rn_newa (t := 0) (N := 40) (by decide) (mw (i := 104) (by decide +kernel)) h_s1 hF (by decide) (by decide) (by decide) (by decide) (by decide) dX3_init_7 ?_
  have hF1 : Fr (a + 1 + 1) (σ) (τ) := hF.mono (by omega)
  refine rn_putF fi_X3_9 ffX3_0 rfl h_s0 (by decide) (by omega) (by decide) (by rw [h_r0_0]) dX3_init_9 ?_
  have hF2 : Fr (a + 1 + 1) (σ) (st2 (τ) (a) 0) := hF1.st (by omega)
  refine rn_aload_n 0 dX3_init_12 rfl ?_
  refine rn_bipush (nI 40) dX3_init_13 (by decide) ?_
  refine rn_newa (t := 0) (N := 40) (by decide) (mw (i := 104) (by decide +kernel)) h_s2 hF2 (by decide) (by decide) (by decide) (by decide) (by decide) dX3_init_15 ?_
  have hF3 : Fr (a + 1 + 2) (σ) (st2 (τ) (a) 0) := hF2.mono (by omega)
  refine rn_putF fi_X3_15 ffX3_1 rfl h_s0 (by decide) (by omega) (by decide) (by rw [h_r0_1]) dX3_init_17 ?_
  have hF4 : Fr (a + 1 + 2) (σ) (st2 (st2 (τ) (a) 0) (a) 1) := hF3.st (by omega)
  refine rn_aload_n 0 dX3_init_20 rfl ?_
  refine rn_bipush (nI 40) dX3_init_21 (by decide) ?_
  refine rn_newa (t := 0) (N := 40) (by decide) (mw (i := 104) (by decide +kernel)) h_s3 hF4 (by decide) (by decide) (by decide) (by decide) (by decide) dX3_init_23 ?_
  have hF5 : Fr (a + 1 + 3) (σ) (st2 (st2 (τ) (a) 0) (a) 1) := hF4.mono (by omega)
  refine rn_putF fi_X3_18 ffX3_2 rfl h_s0 (by decide) (by omega) (by decide) (by rw [h_r0_2]) dX3_init_25 ?_
  have hF6 : Fr (a + 1 + 3) (σ) (st2 (st2 (st2 (τ) (a) 0) (a) 1) (a) 2) := hF5.st (by omega)
  refine rn_aload_n 0 dX3_init_28 rfl ?_
  refine rn_bipush (nI 40) dX3_init_29 (by decide) ?_
  refine rn_newa (t := 0) (N := 40) (by decide) (mw (i := 104) (by decide +kernel)) h_s4 hF6 (by decide) (by decide) (by decide) (by decide) (by decide) dX3_init_31 ?_
  have hF7 : Fr (a + 1 + 4) (σ) (st2 (st2 (st2 (τ) (a) 0) (a) 1) (a) 2) := hF6.mono (by omega)
  refine rn_putF fi_X3_21 ffX3_3 rfl h_s0 (by decide) (by omega) (by decide) (by rw [h_r0_3]) dX3_init_33 ?_
  have hF8 : Fr (a + 1 + 4) (σ) (st2 (st2 (st2 (st2 (τ) (a) 0) (a) 1) (a) 2) (a) 3) := hF7.st (by omega)
  exact rn_ret rfl dX3_init_36
abbrev mX4_init : MI := (RX4, yX4_init, cX4_init, 2, none)
theorem dX4_init_0 : decode cX4_init 0 = .ok (.aload_n 0, 1) := by decide +kernel
theorem dX4_init_1 : decode cX4_init 1 = .ok (.invokespecial 3, 3) := by decide +kernel
theorem dX4_init_4 : decode cX4_init 4 = .ok (.aload_n 0, 1) := by decide +kernel
theorem dX4_init_5 : decode cX4_init 5 = .ok (.bipush 6, 2) := by decide +kernel
theorem dX4_init_7 : decode cX4_init 7 = .ok (.newarray .int, 2) := by decide +kernel
theorem dX4_init_9 : decode cX4_init 9 = .ok (.putfield 9, 3) := by decide +kernel
theorem dX4_init_12 : decode cX4_init 12 = .ok (.aload_n 0, 1) := by decide +kernel
theorem dX4_init_13 : decode cX4_init 13 = .ok (.bipush 6, 2) := by decide +kernel
theorem dX4_init_15 : decode cX4_init 15 = .ok (.newarray .int, 2) := by decide +kernel
theorem dX4_init_17 : decode cX4_init 17 = .ok (.putfield 15, 3) := by decide +kernel
theorem dX4_init_20 : decode cX4_init 20 = .ok (.aload_n 0, 1) := by decide +kernel
theorem dX4_init_21 : decode cX4_init 21 = .ok (.bipush 6, 2) := by decide +kernel
theorem dX4_init_23 : decode cX4_init 23 = .ok (.newarray .int, 2) := by decide +kernel
theorem dX4_init_25 : decode cX4_init 25 = .ok (.putfield 18, 3) := by decide +kernel
theorem dX4_init_28 : decode cX4_init 28 = .ok (.aload_n 0, 1) := by decide +kernel
theorem dX4_init_29 : decode cX4_init 29 = .ok (.iconst 4, 1) := by decide +kernel
theorem dX4_init_30 : decode cX4_init 30 = .ok (.newarray .int, 2) := by decide +kernel
theorem dX4_init_32 : decode cX4_init 32 = .ok (.putfield 21, 3) := by decide +kernel
theorem dX4_init_35 : decode cX4_init 35 = .ok (.aload_n 0, 1) := by decide +kernel
theorem dX4_init_36 : decode cX4_init 36 = .ok (.aload_n 1, 1) := by decide +kernel
theorem dX4_init_37 : decode cX4_init 37 = .ok (.putfield 24, 3) := by decide +kernel
theorem dX4_init_40 : decode cX4_init 40 = .ok (.return_, 1) := by decide +kernel
theorem ccX4_init : CC mX4_init 1 := ⟨mw (i := 230) (by decide +kernel), mw (i := 7) (by decide +kernel), ⟨by decide +kernel, by decide +kernel, by decide +kernel⟩, by decide⟩
theorem imX4_init : Cond.instanceMethod yX4_init ∈ lg := mw (i := 229) (by decide +kernel)
theorem kcX4 : KC 4 RX4 := ⟨TX4, 7, tyX4, rfl, rfl, iwX4, tyX4_ok, mw (i := 227) (by decide +kernel), mw (i := 7) (by decide +kernel), fun j hj => by
  rcases (show j = 0 ∨ j = 1 ∨ j = 2 ∨ j = 3 ∨ j = 4 ∨ j = 5 ∨ j = 6 by omega) with rfl | rfl | rfl | rfl | rfl | rfl | rfl <;> rfl⟩
theorem ffX4_0 : FF0 4 0 RX4 := ⟨.object "LaundrySky$Town", fun _ => ⟨rfl, rfl⟩, by
  intro C T N h
  cases h
  exact ⟨by decide +kernel, rfl, rfl⟩⟩
theorem ffX4_1 : FF0 4 1 RX4 := ⟨.array .int, fun _ => ⟨rfl, rfl⟩, by
  intro C T N h
  cases h
  exact ⟨by decide +kernel, rfl, rfl⟩⟩
theorem ffX4_2 : FF0 4 2 RX4 := ⟨.array .int, fun _ => ⟨rfl, rfl⟩, by
  intro C T N h
  cases h
  exact ⟨by decide +kernel, rfl, rfl⟩⟩
theorem ffX4_3 : FF0 4 3 RX4 := ⟨.array .int, fun _ => ⟨rfl, rfl⟩, by
  intro C T N h
  cases h
  exact ⟨by decide +kernel, rfl, rfl⟩⟩
theorem ffX4_4 : FF0 4 4 RX4 := ⟨.array .int, fun _ => ⟨rfl, rfl⟩, by
  intro C T N h
  cases h
  exact ⟨by decide +kernel, rfl, rfl⟩⟩
def tX4 (τ : TT) (a : Nat) : TT := st2 (st2 (st2 (st2 (st2 (τ) (a) 1) (a) 2) (a) 3) (a) 4) (a) 0
abbrev okX4 (a p : Nat) : Prop := sh (a + 1 + 0) = (100 + 0, 6) ∧ sh a = (4, 0) ∧ rf a 1 = a + 1 + 0 ∧ sh (a + 1 + 1) = (100 + 0, 6) ∧ rf a 2 = a + 1 + 1 ∧ sh (a + 1 + 2) = (100 + 0, 6) ∧ rf a 3 = a + 1 + 2 ∧ sh (a + 1 + 3) = (100 + 0, 4) ∧ rf a 4 = a + 1 + 3 ∧ rf a 0 = p
theorem frX4 {σ : MM} {τ : TT} {a : Nat} (hF : Fr (a + 1) σ τ) : Fr (a + 1 + 4) (σ) (tX4 τ a) := by
  have hF1 : Fr (a + 1 + 1) (σ) (τ) := hF.mono (by omega)
  have hF2 : Fr (a + 1 + 1) (σ) (st2 (τ) (a) 1) := hF1.st (by omega)
  have hF3 : Fr (a + 1 + 2) (σ) (st2 (τ) (a) 1) := hF2.mono (by omega)
  have hF4 : Fr (a + 1 + 2) (σ) (st2 (st2 (τ) (a) 1) (a) 2) := hF3.st (by omega)
  have hF5 : Fr (a + 1 + 3) (σ) (st2 (st2 (τ) (a) 1) (a) 2) := hF4.mono (by omega)
  have hF6 : Fr (a + 1 + 3) (σ) (st2 (st2 (st2 (τ) (a) 1) (a) 2) (a) 3) := hF5.st (by omega)
  have hF7 : Fr (a + 1 + 4) (σ) (st2 (st2 (st2 (τ) (a) 1) (a) 2) (a) 3) := hF6.mono (by omega)
  have hF8 : Fr (a + 1 + 4) (σ) (st2 (st2 (st2 (st2 (τ) (a) 1) (a) 2) (a) 3) (a) 4) := hF7.st (by omega)
  have hF9 : Fr (a + 1 + 4) (σ) (st2 (st2 (st2 (st2 (st2 (τ) (a) 1) (a) 2) (a) 3) (a) 4) (a) 0) := hF8.st (by omega)
  exact hF9
set_option maxHeartbeats 4000000 in
set_option maxRecDepth 100000 in
theorem IX4 {l : Launch} {K : KK} {σ : MM} {τ : TT} {a p : Nat} (h : okX4 a p) (hF : Fr (a + 1) σ τ) : CI l K (a + 1) 4 22 1 mX4_init [.ref (K.2.1 + a), .ref (K.2.1 + p)] σ τ (σ) (tX4 τ a) := by
  obtain ⟨h_s1, h_s0, h_r0_1, h_s2, h_r0_2, h_s3, h_r0_3, h_s4, h_r0_4, h_r0_0⟩ := h
  refine CI.of (by decide +kernel) rfl (Nat.le_of_ble_eq_true rfl) ?_
  show RN l K (a + 1) 1 4 22 mX4_init _ 0 [(0, .ref (K.2.1 + a)), (1, .ref (K.2.1 + p))] [] 0 0 σ τ
  refine rn_aload_n 0 dX4_init_0 rfl ?_
  refine rn_obj (mw (i := 231) (by decide +kernel)) (mw (i := 33) (by decide +kernel)) (mw (i := 34) (by decide +kernel)) (by decide) (by decide) dX4_init_1 ?_
  refine rn_aload_n 0 dX4_init_4 rfl ?_
  refine rn_bipush (nI 6) dX4_init_5 (by decide) ?_
  refine rn_newa (t := 0) (N := 6) (by decide) (mw (i := 104) (by decide +kernel)) h_s1 hF (by decide) (by decide) (by decide) (by decide) (by decide) dX4_init_7 ?_
  have hF1 : Fr (a + 1 + 1) (σ) (τ) := hF.mono (by omega)
  refine rn_putF fi_X4_9 ffX4_1 rfl h_s0 (by decide) (by omega) (by decide) (by rw [h_r0_1]) dX4_init_9 ?_
  have hF2 : Fr (a + 1 + 1) (σ) (st2 (τ) (a) 1) := hF1.st (by omega)
  refine rn_aload_n 0 dX4_init_12 rfl ?_
  refine rn_bipush (nI 6) dX4_init_13 (by decide) ?_
  refine rn_newa (t := 0) (N := 6) (by decide) (mw (i := 104) (by decide +kernel)) h_s2 hF2 (by decide) (by decide) (by decide) (by decide) (by decide) dX4_init_15 ?_
  have hF3 : Fr (a + 1 + 2) (σ) (st2 (τ) (a) 1) := hF2.mono (by omega)
  refine rn_putF fi_X4_15 ffX4_2 rfl h_s0 (by decide) (by omega) (by decide) (by rw [h_r0_2]) dX4_init_17 ?_
  have hF4 : Fr (a + 1 + 2) (σ) (st2 (st2 (τ) (a) 1) (a) 2) := hF3.st (by omega)
  refine rn_aload_n 0 dX4_init_20 rfl ?_
  refine rn_bipush (nI 6) dX4_init_21 (by decide) ?_
  refine rn_newa (t := 0) (N := 6) (by decide) (mw (i := 104) (by decide +kernel)) h_s3 hF4 (by decide) (by decide) (by decide) (by decide) (by decide) dX4_init_23 ?_
  have hF5 : Fr (a + 1 + 3) (σ) (st2 (st2 (τ) (a) 1) (a) 2) := hF4.mono (by omega)
  refine rn_putF fi_X4_18 ffX4_3 rfl h_s0 (by decide) (by omega) (by decide) (by rw [h_r0_3]) dX4_init_25 ?_
  have hF6 : Fr (a + 1 + 3) (σ) (st2 (st2 (st2 (τ) (a) 1) (a) 2) (a) 3) := hF5.st (by omega)
  refine rn_aload_n 0 dX4_init_28 rfl ?_
  refine rn_iconst (nI 4) dX4_init_29 (by decide) ?_
  refine rn_newa (t := 0) (N := 4) (by decide) (mw (i := 104) (by decide +kernel)) h_s4 hF6 (by decide) (by decide) (by decide) (by decide) (by decide) dX4_init_30 ?_
  have hF7 : Fr (a + 1 + 4) (σ) (st2 (st2 (st2 (τ) (a) 1) (a) 2) (a) 3) := hF6.mono (by omega)
  refine rn_putF fi_X4_21 ffX4_4 rfl h_s0 (by decide) (by omega) (by decide) (by rw [h_r0_4]) dX4_init_32 ?_
  have hF8 : Fr (a + 1 + 4) (σ) (st2 (st2 (st2 (st2 (τ) (a) 1) (a) 2) (a) 3) (a) 4) := hF7.st (by omega)
  refine rn_aload_n 0 dX4_init_35 rfl ?_
  refine rn_aload_n 1 dX4_init_36 rfl ?_
  refine rn_putF fi_X4_24 ffX4_0 rfl h_s0 (by decide) (by omega) (by decide) (by rw [h_r0_0]) dX4_init_37 ?_
  have hF9 : Fr (a + 1 + 4) (σ) (st2 (st2 (st2 (st2 (st2 (τ) (a) 1) (a) 2) (a) 3) (a) 4) (a) 0) := hF8.st (by omega)
  exact rn_ret rfl dX4_init_40
abbrev mX5_init : MI := (RX5, yX5_init, cX5_init, 1, none)
theorem dX5_init_0 : decode cX5_init 0 = .ok (.aload_n 0, 1) := by decide +kernel
theorem dX5_init_1 : decode cX5_init 1 = .ok (.invokespecial 3, 3) := by decide +kernel
theorem dX5_init_4 : decode cX5_init 4 = .ok (.aload_n 0, 1) := by decide +kernel
theorem dX5_init_5 : decode cX5_init 5 = .ok (.sipush 1000, 3) := by decide +kernel
theorem dX5_init_8 : decode cX5_init 8 = .ok (.newarray .char, 2) := by decide +kernel
theorem dX5_init_10 : decode cX5_init 10 = .ok (.putfield 9, 3) := by decide +kernel
theorem dX5_init_13 : decode cX5_init 13 = .ok (.return_, 1) := by decide +kernel
theorem ccX5_init : CC mX5_init 0 := ⟨mw (i := 39) (by decide +kernel), mw (i := 2) (by decide +kernel), ⟨by decide +kernel, by decide +kernel, by decide +kernel⟩, by decide⟩
theorem imX5_init : Cond.instanceMethod yX5_init ∈ lg := mw (i := 38) (by decide +kernel)
theorem kcX5 : KC 5 RX5 := ⟨TX5, 9, tyX5, rfl, rfl, iwX5, tyX5_ok, mw (i := 36) (by decide +kernel), mw (i := 2) (by decide +kernel), fun j hj => by
  rcases (show j = 0 ∨ j = 1 ∨ j = 2 ∨ j = 3 ∨ j = 4 ∨ j = 5 ∨ j = 6 ∨ j = 7 ∨ j = 8 by omega) with rfl | rfl | rfl | rfl | rfl | rfl | rfl | rfl | rfl <;> rfl⟩
theorem ffX5_0 : FF0 5 0 RX5 := ⟨.array .char, fun _ => ⟨rfl, rfl⟩, by
  intro C T N h
  cases h
  exact ⟨by decide +kernel, rfl, rfl⟩⟩
def tX5 (τ : TT) (a : Nat) : TT := st2 (τ) (a) 0
abbrev okX5 (a : Nat) : Prop := sh (a + 1 + 0) = (100 + 2, 1000) ∧ sh a = (5, 0) ∧ rf a 0 = a + 1 + 0
theorem frX5 {σ : MM} {τ : TT} {a : Nat} (hF : Fr (a + 1) σ τ) : Fr (a + 1 + 1) (σ) (tX5 τ a) := by
  have hF1 : Fr (a + 1 + 1) (σ) (τ) := hF.mono (by omega)
  have hF2 : Fr (a + 1 + 1) (σ) (st2 (τ) (a) 0) := hF1.st (by omega)
  exact hF2
set_option maxHeartbeats 4000000 in
set_option maxRecDepth 100000 in
theorem IX5 {l : Launch} {K : KK} {σ : MM} {τ : TT} {a : Nat} (h : okX5 a) (hF : Fr (a + 1) σ τ) : CI l K (a + 1) 1 1000 1 mX5_init [.ref (K.2.1 + a)] σ τ (σ) (tX5 τ a) := by
  obtain ⟨h_s1, h_s0, h_r0_0⟩ := h
  refine CI.of (by decide +kernel) rfl (Nat.le_of_ble_eq_true rfl) ?_
  show RN l K (a + 1) 1 1 1000 mX5_init _ 0 [(0, .ref (K.2.1 + a))] [] 0 0 σ τ
  refine rn_aload_n 0 dX5_init_0 rfl ?_
  refine rn_obj (mw (i := 40) (by decide +kernel)) (mw (i := 33) (by decide +kernel)) (mw (i := 34) (by decide +kernel)) (by decide) (by decide) dX5_init_1 ?_
  refine rn_aload_n 0 dX5_init_4 rfl ?_
  refine rn_sipush (nI 1000) dX5_init_5 (by decide) ?_
  refine rn_newa (t := 2) (N := 1000) (by decide) (mw (i := 79) (by decide +kernel)) h_s1 hF (by decide) (by decide) (by decide) (by decide) (by decide) dX5_init_8 ?_
  have hF1 : Fr (a + 1 + 1) (σ) (τ) := hF.mono (by omega)
  refine rn_putF fi_X5_9 ffX5_0 rfl h_s0 (by decide) (by omega) (by decide) (by rw [h_r0_0]) dX5_init_10 ?_
  have hF2 : Fr (a + 1 + 1) (σ) (st2 (τ) (a) 0) := hF1.st (by omega)
  exact rn_ret rfl dX5_init_13
abbrev mX6_init : MI := (RX6, yX6_init, cX6_init, 2, none)
theorem dX6_init_0 : decode cX6_init 0 = .ok (.aload_n 0, 1) := by decide +kernel
theorem dX6_init_1 : decode cX6_init 1 = .ok (.invokespecial 3, 3) := by decide +kernel
theorem dX6_init_4 : decode cX6_init 4 = .ok (.aload_n 0, 1) := by decide +kernel
theorem dX6_init_5 : decode cX6_init 5 = .ok (.bipush 6, 2) := by decide +kernel
theorem dX6_init_7 : decode cX6_init 7 = .ok (.newarray .int, 2) := by decide +kernel
theorem dX6_init_9 : decode cX6_init 9 = .ok (.putfield 9, 3) := by decide +kernel
theorem dX6_init_12 : decode cX6_init 12 = .ok (.aload_n 0, 1) := by decide +kernel
theorem dX6_init_13 : decode cX6_init 13 = .ok (.bipush 6, 2) := by decide +kernel
theorem dX6_init_15 : decode cX6_init 15 = .ok (.newarray .int, 2) := by decide +kernel
theorem dX6_init_17 : decode cX6_init 17 = .ok (.putfield 15, 3) := by decide +kernel
theorem dX6_init_20 : decode cX6_init 20 = .ok (.aload_n 0, 1) := by decide +kernel
theorem dX6_init_21 : decode cX6_init 21 = .ok (.bipush 6, 2) := by decide +kernel
theorem dX6_init_23 : decode cX6_init 23 = .ok (.newarray .int, 2) := by decide +kernel
theorem dX6_init_25 : decode cX6_init 25 = .ok (.putfield 18, 3) := by decide +kernel
theorem dX6_init_28 : decode cX6_init 28 = .ok (.aload_n 0, 1) := by decide +kernel
theorem dX6_init_29 : decode cX6_init 29 = .ok (.iconst 4, 1) := by decide +kernel
theorem dX6_init_30 : decode cX6_init 30 = .ok (.iconst 5, 1) := by decide +kernel
theorem dX6_init_31 : decode cX6_init 31 = .ok (.multianewarray 21 2, 4) := by decide +kernel
theorem dX6_init_35 : decode cX6_init 35 = .ok (.putfield 23, 3) := by decide +kernel
theorem dX6_init_38 : decode cX6_init 38 = .ok (.aload_n 0, 1) := by decide +kernel
theorem dX6_init_39 : decode cX6_init 39 = .ok (.iconst 4, 1) := by decide +kernel
theorem dX6_init_40 : decode cX6_init 40 = .ok (.newarray .int, 2) := by decide +kernel
theorem dX6_init_42 : decode cX6_init 42 = .ok (.putfield 26, 3) := by decide +kernel
theorem dX6_init_45 : decode cX6_init 45 = .ok (.aload_n 0, 1) := by decide +kernel
theorem dX6_init_46 : decode cX6_init 46 = .ok (.aload_n 1, 1) := by decide +kernel
theorem dX6_init_47 : decode cX6_init 47 = .ok (.putfield 29, 3) := by decide +kernel
theorem dX6_init_50 : decode cX6_init 50 = .ok (.return_, 1) := by decide +kernel
theorem ccX6_init : CC mX6_init 1 := ⟨mw (i := 309) (by decide +kernel), mw (i := 10) (by decide +kernel), ⟨by decide +kernel, by decide +kernel, by decide +kernel⟩, by decide⟩
theorem imX6_init : Cond.instanceMethod yX6_init ∈ lg := mw (i := 308) (by decide +kernel)
theorem kcX6 : KC 6 RX6 := ⟨TX6, 10, tyX6, rfl, rfl, iwX6, tyX6_ok, mw (i := 306) (by decide +kernel), mw (i := 10) (by decide +kernel), fun j hj => by
  rcases (show j = 0 ∨ j = 1 ∨ j = 2 ∨ j = 3 ∨ j = 4 ∨ j = 5 ∨ j = 6 ∨ j = 7 ∨ j = 8 ∨ j = 9 by omega) with rfl | rfl | rfl | rfl | rfl | rfl | rfl | rfl | rfl | rfl <;> rfl⟩
theorem ffX6_0 : FF0 6 0 RX6 := ⟨.array .int, fun _ => ⟨rfl, rfl⟩, by
  intro C T N h
  cases h
  exact ⟨by decide +kernel, rfl, rfl⟩⟩
theorem ffX6_1 : FF0 6 1 RX6 := ⟨.array .int, fun _ => ⟨rfl, rfl⟩, by
  intro C T N h
  cases h
  exact ⟨by decide +kernel, rfl, rfl⟩⟩
theorem ffX6_2 : FF0 6 2 RX6 := ⟨.array .int, fun _ => ⟨rfl, rfl⟩, by
  intro C T N h
  cases h
  exact ⟨by decide +kernel, rfl, rfl⟩⟩
theorem ffX6_7 : FF0 6 7 RX6 := ⟨.object "LaundrySky$Sky", fun _ => ⟨rfl, rfl⟩, by
  intro C T N h
  cases h
  exact ⟨by decide +kernel, rfl, rfl⟩⟩
theorem ffX6_8 : FF0 6 8 RX6 := ⟨.array (.array .int), fun _ => ⟨rfl, rfl⟩, by
  intro C T N h
  cases h
  exact ⟨by decide +kernel, rfl, rfl⟩⟩
theorem ffX6_9 : FF0 6 9 RX6 := ⟨.array .int, fun _ => ⟨rfl, rfl⟩, by
  intro C T N h
  cases h
  exact ⟨by decide +kernel, rfl, rfl⟩⟩
def tX6 (τ : TT) (a : Nat) : TT := st2 (st2 (st2 (t4 (st2 (st2 (st2 (τ) (a) 0) (a) 1) (a) 2) (a + 1 + 3)) (a) 8) (a) 9) (a) 7
abbrev okX6 (a p : Nat) : Prop := sh (a + 1 + 0) = (100 + 0, 6) ∧ sh a = (6, 0) ∧ rf a 0 = a + 1 + 0 ∧ sh (a + 1 + 1) = (100 + 0, 6) ∧ rf a 1 = a + 1 + 1 ∧ sh (a + 1 + 2) = (100 + 0, 6) ∧ rf a 2 = a + 1 + 2 ∧ sh (a + 1 + 3) = (100 + 6, 4) ∧ sh (a + 1 + 4) = (100 + 0, 5) ∧ sh (a + 1 + 5) = (100 + 0, 5) ∧ sh (a + 1 + 6) = (100 + 0, 5) ∧ sh (a + 1 + 7) = (100 + 0, 5) ∧ rf (a + 1 + 3) 0 = a + 1 + 4 ∧ rf (a + 1 + 3) 1 = a + 1 + 5 ∧ rf (a + 1 + 3) 2 = a + 1 + 6 ∧ rf (a + 1 + 3) 3 = a + 1 + 7 ∧ rf a 8 = a + 1 + 3 ∧ sh (a + 1 + 8) = (100 + 0, 4) ∧ rf a 9 = a + 1 + 8 ∧ rf a 7 = p
theorem frX6 {σ : MM} {τ : TT} {a : Nat} (hF : Fr (a + 1) σ τ) : Fr (a + 1 + 9) (σ) (tX6 τ a) := by
  have hF1 : Fr (a + 1 + 1) (σ) (τ) := hF.mono (by omega)
  have hF2 : Fr (a + 1 + 1) (σ) (st2 (τ) (a) 0) := hF1.st (by omega)
  have hF3 : Fr (a + 1 + 2) (σ) (st2 (τ) (a) 0) := hF2.mono (by omega)
  have hF4 : Fr (a + 1 + 2) (σ) (st2 (st2 (τ) (a) 0) (a) 1) := hF3.st (by omega)
  have hF5 : Fr (a + 1 + 3) (σ) (st2 (st2 (τ) (a) 0) (a) 1) := hF4.mono (by omega)
  have hF6 : Fr (a + 1 + 3) (σ) (st2 (st2 (st2 (τ) (a) 0) (a) 1) (a) 2) := hF5.st (by omega)
  have hF7 : Fr (a + 1 + 8) (σ) (t4 (st2 (st2 (st2 (τ) (a) 0) (a) 1) (a) 2) (a + 1 + 3)) := Fr.t4 hF6
  have hF8 : Fr (a + 1 + 8) (σ) (st2 (t4 (st2 (st2 (st2 (τ) (a) 0) (a) 1) (a) 2) (a + 1 + 3)) (a) 8) := hF7.st (by omega)
  have hF9 : Fr (a + 1 + 9) (σ) (st2 (t4 (st2 (st2 (st2 (τ) (a) 0) (a) 1) (a) 2) (a + 1 + 3)) (a) 8) := hF8.mono (by omega)
  have hF10 : Fr (a + 1 + 9) (σ) (st2 (st2 (t4 (st2 (st2 (st2 (τ) (a) 0) (a) 1) (a) 2) (a + 1 + 3)) (a) 8) (a) 9) := hF9.st (by omega)
  have hF11 : Fr (a + 1 + 9) (σ) (st2 (st2 (st2 (t4 (st2 (st2 (st2 (τ) (a) 0) (a) 1) (a) 2) (a + 1 + 3)) (a) 8) (a) 9) (a) 7) := hF10.st (by omega)
  exact hF11
set_option maxHeartbeats 4000000 in
set_option maxRecDepth 100000 in
theorem IX6 {l : Launch} {K : KK} {σ : MM} {τ : TT} {a p : Nat} (h : okX6 a p) (hF : Fr (a + 1) σ τ) : CI l K (a + 1) 9 46 1 mX6_init [.ref (K.2.1 + a), .ref (K.2.1 + p)] σ τ (σ) (tX6 τ a) := by
  obtain ⟨h_s1, h_s0, h_r0_0, h_s2, h_r0_1, h_s3, h_r0_2, h_s4, h_s5, h_s6, h_s7, h_s8, h_r4_0, h_r4_1, h_r4_2, h_r4_3, h_r0_8, h_s9, h_r0_9, h_r0_7⟩ := h
  refine CI.of (by decide +kernel) rfl (Nat.le_of_ble_eq_true rfl) ?_
  show RN l K (a + 1) 1 9 46 mX6_init _ 0 [(0, .ref (K.2.1 + a)), (1, .ref (K.2.1 + p))] [] 0 0 σ τ
  refine rn_aload_n 0 dX6_init_0 rfl ?_
  refine rn_obj (mw (i := 310) (by decide +kernel)) (mw (i := 33) (by decide +kernel)) (mw (i := 34) (by decide +kernel)) (by decide) (by decide) dX6_init_1 ?_
  refine rn_aload_n 0 dX6_init_4 rfl ?_
  refine rn_bipush (nI 6) dX6_init_5 (by decide) ?_
  refine rn_newa (t := 0) (N := 6) (by decide) (mw (i := 104) (by decide +kernel)) h_s1 hF (by decide) (by decide) (by decide) (by decide) (by decide) dX6_init_7 ?_
  have hF1 : Fr (a + 1 + 1) (σ) (τ) := hF.mono (by omega)
  refine rn_putF fi_X6_9 ffX6_0 rfl h_s0 (by decide) (by omega) (by decide) (by rw [h_r0_0]) dX6_init_9 ?_
  have hF2 : Fr (a + 1 + 1) (σ) (st2 (τ) (a) 0) := hF1.st (by omega)
  refine rn_aload_n 0 dX6_init_12 rfl ?_
  refine rn_bipush (nI 6) dX6_init_13 (by decide) ?_
  refine rn_newa (t := 0) (N := 6) (by decide) (mw (i := 104) (by decide +kernel)) h_s2 hF2 (by decide) (by decide) (by decide) (by decide) (by decide) dX6_init_15 ?_
  have hF3 : Fr (a + 1 + 2) (σ) (st2 (τ) (a) 0) := hF2.mono (by omega)
  refine rn_putF fi_X6_15 ffX6_1 rfl h_s0 (by decide) (by omega) (by decide) (by rw [h_r0_1]) dX6_init_17 ?_
  have hF4 : Fr (a + 1 + 2) (σ) (st2 (st2 (τ) (a) 0) (a) 1) := hF3.st (by omega)
  refine rn_aload_n 0 dX6_init_20 rfl ?_
  refine rn_bipush (nI 6) dX6_init_21 (by decide) ?_
  refine rn_newa (t := 0) (N := 6) (by decide) (mw (i := 104) (by decide +kernel)) h_s3 hF4 (by decide) (by decide) (by decide) (by decide) (by decide) dX6_init_23 ?_
  have hF5 : Fr (a + 1 + 3) (σ) (st2 (st2 (τ) (a) 0) (a) 1) := hF4.mono (by omega)
  refine rn_putF fi_X6_18 ffX6_2 rfl h_s0 (by decide) (by omega) (by decide) (by rw [h_r0_2]) dX6_init_25 ?_
  have hF6 : Fr (a + 1 + 3) (σ) (st2 (st2 (st2 (τ) (a) 0) (a) 1) (a) 2) := hF5.st (by omega)
  refine rn_aload_n 0 dX6_init_28 rfl ?_
  refine rn_iconst (nI 4) dX6_init_29 (by decide) ?_
  refine rn_iconst (nI 5) dX6_init_30 (by decide) ?_
  refine rn_mna (mw (i := 311) (by decide +kernel)) (mw (i := 104) (by decide +kernel)) h_s4 (fun j hj => by
    rcases (show j = 0 ∨ j = 1 ∨ j = 2 ∨ j = 3 by omega) with rfl | rfl | rfl | rfl
    · exact h_s5
    · exact h_s6
    · exact h_s7
    · exact h_s8) (fun j hj => by
    rcases (show j = 0 ∨ j = 1 ∨ j = 2 ∨ j = 3 by omega) with rfl | rfl | rfl | rfl
    · exact h_r4_0
    · exact h_r4_1
    · exact h_r4_2
    · exact h_r4_3) hF6 (by decide) (by decide) dX6_init_31 ?_
  have hF7 : Fr (a + 1 + 8) (σ) (t4 (st2 (st2 (st2 (τ) (a) 0) (a) 1) (a) 2) (a + 1 + 3)) := Fr.t4 hF6
  refine rn_putF fi_X6_23 ffX6_8 rfl h_s0 (by decide) (by omega) (by decide) (by rw [h_r0_8]) dX6_init_35 ?_
  have hF8 : Fr (a + 1 + 8) (σ) (st2 (t4 (st2 (st2 (st2 (τ) (a) 0) (a) 1) (a) 2) (a + 1 + 3)) (a) 8) := hF7.st (by omega)
  refine rn_aload_n 0 dX6_init_38 rfl ?_
  refine rn_iconst (nI 4) dX6_init_39 (by decide) ?_
  refine rn_newa (t := 0) (N := 4) (by decide) (mw (i := 104) (by decide +kernel)) h_s9 hF8 (by decide) (by decide) (by decide) (by decide) (by decide) dX6_init_40 ?_
  have hF9 : Fr (a + 1 + 9) (σ) (st2 (t4 (st2 (st2 (st2 (τ) (a) 0) (a) 1) (a) 2) (a + 1 + 3)) (a) 8) := hF8.mono (by omega)
  refine rn_putF fi_X6_26 ffX6_9 rfl h_s0 (by decide) (by omega) (by decide) (by rw [h_r0_9]) dX6_init_42 ?_
  have hF10 : Fr (a + 1 + 9) (σ) (st2 (st2 (t4 (st2 (st2 (st2 (τ) (a) 0) (a) 1) (a) 2) (a + 1 + 3)) (a) 8) (a) 9) := hF9.st (by omega)
  refine rn_aload_n 0 dX6_init_45 rfl ?_
  refine rn_aload_n 1 dX6_init_46 rfl ?_
  refine rn_putF fi_X6_29 ffX6_7 rfl h_s0 (by decide) (by omega) (by decide) (by rw [h_r0_7]) dX6_init_47 ?_
  have hF11 : Fr (a + 1 + 9) (σ) (st2 (st2 (st2 (t4 (st2 (st2 (st2 (τ) (a) 0) (a) 1) (a) 2) (a + 1 + 3)) (a) 8) (a) 9) (a) 7) := hF10.st (by omega)
  exact rn_ret rfl dX6_init_50
abbrev mX9_init : MI := (RX9, yX9_init, cX9_init, 2, none)
theorem dX9_init_0 : decode cX9_init 0 = .ok (.aload_n 0, 1) := by decide +kernel
theorem dX9_init_1 : decode cX9_init 1 = .ok (.invokespecial 3, 3) := by decide +kernel
theorem dX9_init_4 : decode cX9_init 4 = .ok (.aload_n 0, 1) := by decide +kernel
theorem dX9_init_5 : decode cX9_init 5 = .ok (.iconst 4, 1) := by decide +kernel
theorem dX9_init_6 : decode cX9_init 6 = .ok (.newarray .int, 2) := by decide +kernel
theorem dX9_init_8 : decode cX9_init 8 = .ok (.dup, 1) := by decide +kernel
theorem dX9_init_9 : decode cX9_init 9 = .ok (.iconst 0, 1) := by decide +kernel
theorem dX9_init_10 : decode cX9_init 10 = .ok (.bipush (-2), 2) := by decide +kernel
theorem dX9_init_12 : decode cX9_init 12 = .ok (.iastore, 1) := by decide +kernel
theorem dX9_init_13 : decode cX9_init 13 = .ok (.dup, 1) := by decide +kernel
theorem dX9_init_14 : decode cX9_init 14 = .ok (.iconst 1, 1) := by decide +kernel
theorem dX9_init_15 : decode cX9_init 15 = .ok (.bipush (-2), 2) := by decide +kernel
theorem dX9_init_17 : decode cX9_init 17 = .ok (.iastore, 1) := by decide +kernel
theorem dX9_init_18 : decode cX9_init 18 = .ok (.dup, 1) := by decide +kernel
theorem dX9_init_19 : decode cX9_init 19 = .ok (.iconst 2, 1) := by decide +kernel
theorem dX9_init_20 : decode cX9_init 20 = .ok (.bipush (-2), 2) := by decide +kernel
theorem dX9_init_22 : decode cX9_init 22 = .ok (.iastore, 1) := by decide +kernel
theorem dX9_init_23 : decode cX9_init 23 = .ok (.dup, 1) := by decide +kernel
theorem dX9_init_24 : decode cX9_init 24 = .ok (.iconst 3, 1) := by decide +kernel
theorem dX9_init_25 : decode cX9_init 25 = .ok (.bipush (-2), 2) := by decide +kernel
theorem dX9_init_27 : decode cX9_init 27 = .ok (.iastore, 1) := by decide +kernel
theorem dX9_init_28 : decode cX9_init 28 = .ok (.putfield 11, 3) := by decide +kernel
theorem dX9_init_31 : decode cX9_init 31 = .ok (.aload_n 0, 1) := by decide +kernel
theorem dX9_init_32 : decode cX9_init 32 = .ok (.bipush 6, 2) := by decide +kernel
theorem dX9_init_34 : decode cX9_init 34 = .ok (.newarray .int, 2) := by decide +kernel
theorem dX9_init_36 : decode cX9_init 36 = .ok (.putfield 15, 3) := by decide +kernel
theorem dX9_init_39 : decode cX9_init 39 = .ok (.aload_n 0, 1) := by decide +kernel
theorem dX9_init_40 : decode cX9_init 40 = .ok (.iconst 4, 1) := by decide +kernel
theorem dX9_init_41 : decode cX9_init 41 = .ok (.newarray .int, 2) := by decide +kernel
theorem dX9_init_43 : decode cX9_init 43 = .ok (.putfield 18, 3) := by decide +kernel
theorem dX9_init_46 : decode cX9_init 46 = .ok (.aload_n 0, 1) := by decide +kernel
theorem dX9_init_47 : decode cX9_init 47 = .ok (.aload_n 1, 1) := by decide +kernel
theorem dX9_init_48 : decode cX9_init 48 = .ok (.putfield 21, 3) := by decide +kernel
theorem dX9_init_51 : decode cX9_init 51 = .ok (.return_, 1) := by decide +kernel
theorem ccX9_init : CC mX9_init 1 := ⟨mw (i := 287) (by decide +kernel), mw (i := 9) (by decide +kernel), ⟨by decide +kernel, by decide +kernel, by decide +kernel⟩, by decide⟩
theorem imX9_init : Cond.instanceMethod yX9_init ∈ lg := mw (i := 286) (by decide +kernel)
theorem kcX9 : KC 9 RX9 := ⟨TX9, 4, tyX9, rfl, rfl, iwX9, tyX9_ok, mw (i := 284) (by decide +kernel), mw (i := 9) (by decide +kernel), fun j hj => by
  rcases (show j = 0 ∨ j = 1 ∨ j = 2 ∨ j = 3 by omega) with rfl | rfl | rfl | rfl <;> rfl⟩
theorem ffX9_0 : FF0 9 0 RX9 := ⟨.array .int, fun _ => ⟨rfl, rfl⟩, by
  intro C T N h
  cases h
  exact ⟨by decide +kernel, rfl, rfl⟩⟩
theorem ffX9_1 : FF0 9 1 RX9 := ⟨.array .int, fun _ => ⟨rfl, rfl⟩, by
  intro C T N h
  cases h
  exact ⟨by decide +kernel, rfl, rfl⟩⟩
theorem ffX9_2 : FF0 9 2 RX9 := ⟨.object "LaundrySky$Sky", fun _ => ⟨rfl, rfl⟩, by
  intro C T N h
  cases h
  exact ⟨by decide +kernel, rfl, rfl⟩⟩
theorem ffX9_3 : FF0 9 3 RX9 := ⟨.array .int, fun _ => ⟨rfl, rfl⟩, by
  intro C T N h
  cases h
  exact ⟨by decide +kernel, rfl, rfl⟩⟩
def tX9 (τ : TT) (a : Nat) : TT := st2 (st2 (st2 (st2 (τ) (a) 0) (a) 1) (a) 3) (a) 2
def sX9 (σ : MM) (a : Nat) : MM := uI0 (uI0 (uI0 (uI0 (σ) (a + 1 + 0) 0 (-2)) (a + 1 + 0) 1 (-2)) (a + 1 + 0) 2 (-2)) (a + 1 + 0) 3 (-2)
abbrev okX9 (a p : Nat) : Prop := sh (a + 1 + 0) = (100 + 0, 4) ∧ sh a = (9, 0) ∧ rf a 0 = a + 1 + 0 ∧ sh (a + 1 + 1) = (100 + 0, 6) ∧ rf a 1 = a + 1 + 1 ∧ sh (a + 1 + 2) = (100 + 0, 4) ∧ rf a 3 = a + 1 + 2 ∧ rf a 2 = p
theorem frX9 {σ : MM} {τ : TT} {a : Nat} (hF : Fr (a + 1) σ τ) : Fr (a + 1 + 3) (sX9 σ a) (tX9 τ a) := by
  have hF1 : Fr (a + 1 + 1) (σ) (τ) := hF.mono (by omega)
  have hF2 : Fr (a + 1 + 1) (uI0 (σ) (a + 1 + 0) 0 (-2)) (τ) := hF1.uI (by omega)
  have hF3 : Fr (a + 1 + 1) (uI0 (uI0 (σ) (a + 1 + 0) 0 (-2)) (a + 1 + 0) 1 (-2)) (τ) := hF2.uI (by omega)
  have hF4 : Fr (a + 1 + 1) (uI0 (uI0 (uI0 (σ) (a + 1 + 0) 0 (-2)) (a + 1 + 0) 1 (-2)) (a + 1 + 0) 2 (-2)) (τ) := hF3.uI (by omega)
  have hF5 : Fr (a + 1 + 1) (uI0 (uI0 (uI0 (uI0 (σ) (a + 1 + 0) 0 (-2)) (a + 1 + 0) 1 (-2)) (a + 1 + 0) 2 (-2)) (a + 1 + 0) 3 (-2)) (τ) := hF4.uI (by omega)
  have hF6 : Fr (a + 1 + 1) (uI0 (uI0 (uI0 (uI0 (σ) (a + 1 + 0) 0 (-2)) (a + 1 + 0) 1 (-2)) (a + 1 + 0) 2 (-2)) (a + 1 + 0) 3 (-2)) (st2 (τ) (a) 0) := hF5.st (by omega)
  have hF7 : Fr (a + 1 + 2) (uI0 (uI0 (uI0 (uI0 (σ) (a + 1 + 0) 0 (-2)) (a + 1 + 0) 1 (-2)) (a + 1 + 0) 2 (-2)) (a + 1 + 0) 3 (-2)) (st2 (τ) (a) 0) := hF6.mono (by omega)
  have hF8 : Fr (a + 1 + 2) (uI0 (uI0 (uI0 (uI0 (σ) (a + 1 + 0) 0 (-2)) (a + 1 + 0) 1 (-2)) (a + 1 + 0) 2 (-2)) (a + 1 + 0) 3 (-2)) (st2 (st2 (τ) (a) 0) (a) 1) := hF7.st (by omega)
  have hF9 : Fr (a + 1 + 3) (uI0 (uI0 (uI0 (uI0 (σ) (a + 1 + 0) 0 (-2)) (a + 1 + 0) 1 (-2)) (a + 1 + 0) 2 (-2)) (a + 1 + 0) 3 (-2)) (st2 (st2 (τ) (a) 0) (a) 1) := hF8.mono (by omega)
  have hF10 : Fr (a + 1 + 3) (uI0 (uI0 (uI0 (uI0 (σ) (a + 1 + 0) 0 (-2)) (a + 1 + 0) 1 (-2)) (a + 1 + 0) 2 (-2)) (a + 1 + 0) 3 (-2)) (st2 (st2 (st2 (τ) (a) 0) (a) 1) (a) 3) := hF9.st (by omega)
  have hF11 : Fr (a + 1 + 3) (uI0 (uI0 (uI0 (uI0 (σ) (a + 1 + 0) 0 (-2)) (a + 1 + 0) 1 (-2)) (a + 1 + 0) 2 (-2)) (a + 1 + 0) 3 (-2)) (st2 (st2 (st2 (st2 (τ) (a) 0) (a) 1) (a) 3) (a) 2) := hF10.st (by omega)
  exact hF11
set_option maxHeartbeats 4000000 in
set_option maxRecDepth 100000 in
theorem IX9 {l : Launch} {K : KK} {σ : MM} {τ : TT} {a p : Nat} (h : okX9 a p) (hF : Fr (a + 1) σ τ) : CI l K (a + 1) 3 14 1 mX9_init [.ref (K.2.1 + a), .ref (K.2.1 + p)] σ τ (sX9 σ a) (tX9 τ a) := by
  obtain ⟨h_s1, h_s0, h_r0_0, h_s2, h_r0_1, h_s3, h_r0_3, h_r0_2⟩ := h
  refine CI.of (by decide +kernel) rfl (Nat.le_of_ble_eq_true rfl) ?_
  show RN l K (a + 1) 1 3 14 mX9_init _ 0 [(0, .ref (K.2.1 + a)), (1, .ref (K.2.1 + p))] [] 0 0 σ τ
  refine rn_aload_n 0 dX9_init_0 rfl ?_
  refine rn_obj (mw (i := 288) (by decide +kernel)) (mw (i := 33) (by decide +kernel)) (mw (i := 34) (by decide +kernel)) (by decide) (by decide) dX9_init_1 ?_
  refine rn_aload_n 0 dX9_init_4 rfl ?_
  refine rn_iconst (nI 4) dX9_init_5 (by decide) ?_
  refine rn_newa (t := 0) (N := 4) (by decide) (mw (i := 104) (by decide +kernel)) h_s1 hF (by decide) (by decide) (by decide) (by decide) (by decide) dX9_init_6 ?_
  have hF1 : Fr (a + 1 + 1) (σ) (τ) := hF.mono (by omega)
  refine rn_dup dX9_init_8 rfl ?_
  refine rn_iconst (nI 0) dX9_init_9 (by decide) ?_
  refine rn_bipush (-2) dX9_init_10 (by decide) ?_
  refine rn_iast (N := 4) (a := a + 1 + 0) (i := 0) h_s1 (by omega) (by decide) (by decide) dX9_init_12 ?_
  have hF2 : Fr (a + 1 + 1) (uI0 (σ) (a + 1 + 0) 0 (-2)) (τ) := hF1.uI (by omega)
  refine rn_dup dX9_init_13 rfl ?_
  refine rn_iconst (nI 1) dX9_init_14 (by decide) ?_
  refine rn_bipush (-2) dX9_init_15 (by decide) ?_
  refine rn_iast (N := 4) (a := a + 1 + 0) (i := 1) h_s1 (by omega) (by decide) (by decide) dX9_init_17 ?_
  have hF3 : Fr (a + 1 + 1) (uI0 (uI0 (σ) (a + 1 + 0) 0 (-2)) (a + 1 + 0) 1 (-2)) (τ) := hF2.uI (by omega)
  refine rn_dup dX9_init_18 rfl ?_
  refine rn_iconst (nI 2) dX9_init_19 (by decide) ?_
  refine rn_bipush (-2) dX9_init_20 (by decide) ?_
  refine rn_iast (N := 4) (a := a + 1 + 0) (i := 2) h_s1 (by omega) (by decide) (by decide) dX9_init_22 ?_
  have hF4 : Fr (a + 1 + 1) (uI0 (uI0 (uI0 (σ) (a + 1 + 0) 0 (-2)) (a + 1 + 0) 1 (-2)) (a + 1 + 0) 2 (-2)) (τ) := hF3.uI (by omega)
  refine rn_dup dX9_init_23 rfl ?_
  refine rn_iconst (nI 3) dX9_init_24 (by decide) ?_
  refine rn_bipush (-2) dX9_init_25 (by decide) ?_
  refine rn_iast (N := 4) (a := a + 1 + 0) (i := 3) h_s1 (by omega) (by decide) (by decide) dX9_init_27 ?_
  have hF5 : Fr (a + 1 + 1) (uI0 (uI0 (uI0 (uI0 (σ) (a + 1 + 0) 0 (-2)) (a + 1 + 0) 1 (-2)) (a + 1 + 0) 2 (-2)) (a + 1 + 0) 3 (-2)) (τ) := hF4.uI (by omega)
  refine rn_putF fi_X9_11 ffX9_0 rfl h_s0 (by decide) (by omega) (by decide) (by rw [h_r0_0]) dX9_init_28 ?_
  have hF6 : Fr (a + 1 + 1) (uI0 (uI0 (uI0 (uI0 (σ) (a + 1 + 0) 0 (-2)) (a + 1 + 0) 1 (-2)) (a + 1 + 0) 2 (-2)) (a + 1 + 0) 3 (-2)) (st2 (τ) (a) 0) := hF5.st (by omega)
  refine rn_aload_n 0 dX9_init_31 rfl ?_
  refine rn_bipush (nI 6) dX9_init_32 (by decide) ?_
  refine rn_newa (t := 0) (N := 6) (by decide) (mw (i := 104) (by decide +kernel)) h_s2 hF6 (by decide) (by decide) (by decide) (by decide) (by decide) dX9_init_34 ?_
  have hF7 : Fr (a + 1 + 2) (uI0 (uI0 (uI0 (uI0 (σ) (a + 1 + 0) 0 (-2)) (a + 1 + 0) 1 (-2)) (a + 1 + 0) 2 (-2)) (a + 1 + 0) 3 (-2)) (st2 (τ) (a) 0) := hF6.mono (by omega)
  refine rn_putF fi_X9_15 ffX9_1 rfl h_s0 (by decide) (by omega) (by decide) (by rw [h_r0_1]) dX9_init_36 ?_
  have hF8 : Fr (a + 1 + 2) (uI0 (uI0 (uI0 (uI0 (σ) (a + 1 + 0) 0 (-2)) (a + 1 + 0) 1 (-2)) (a + 1 + 0) 2 (-2)) (a + 1 + 0) 3 (-2)) (st2 (st2 (τ) (a) 0) (a) 1) := hF7.st (by omega)
  refine rn_aload_n 0 dX9_init_39 rfl ?_
  refine rn_iconst (nI 4) dX9_init_40 (by decide) ?_
  refine rn_newa (t := 0) (N := 4) (by decide) (mw (i := 104) (by decide +kernel)) h_s3 hF8 (by decide) (by decide) (by decide) (by decide) (by decide) dX9_init_41 ?_
  have hF9 : Fr (a + 1 + 3) (uI0 (uI0 (uI0 (uI0 (σ) (a + 1 + 0) 0 (-2)) (a + 1 + 0) 1 (-2)) (a + 1 + 0) 2 (-2)) (a + 1 + 0) 3 (-2)) (st2 (st2 (τ) (a) 0) (a) 1) := hF8.mono (by omega)
  refine rn_putF fi_X9_18 ffX9_3 rfl h_s0 (by decide) (by omega) (by decide) (by rw [h_r0_3]) dX9_init_43 ?_
  have hF10 : Fr (a + 1 + 3) (uI0 (uI0 (uI0 (uI0 (σ) (a + 1 + 0) 0 (-2)) (a + 1 + 0) 1 (-2)) (a + 1 + 0) 2 (-2)) (a + 1 + 0) 3 (-2)) (st2 (st2 (st2 (τ) (a) 0) (a) 1) (a) 3) := hF9.st (by omega)
  refine rn_aload_n 0 dX9_init_46 rfl ?_
  refine rn_aload_n 1 dX9_init_47 rfl ?_
  refine rn_putF fi_X9_21 ffX9_2 rfl h_s0 (by decide) (by omega) (by decide) (by rw [h_r0_2]) dX9_init_48 ?_
  have hF11 : Fr (a + 1 + 3) (uI0 (uI0 (uI0 (uI0 (σ) (a + 1 + 0) 0 (-2)) (a + 1 + 0) 1 (-2)) (a + 1 + 0) 2 (-2)) (a + 1 + 0) 3 (-2)) (st2 (st2 (st2 (st2 (τ) (a) 0) (a) 1) (a) 3) (a) 2) := hF10.st (by omega)
  exact rn_ret rfl dX9_init_51
abbrev mX7_init : MI := (RX7, yX7_init, cX7_init, 1, none)
theorem dX7_init_0 : decode cX7_init 0 = .ok (.aload_n 0, 1) := by decide +kernel
theorem dX7_init_1 : decode cX7_init 1 = .ok (.invokespecial 3, 3) := by decide +kernel
theorem dX7_init_4 : decode cX7_init 4 = .ok (.aload_n 0, 1) := by decide +kernel
theorem dX7_init_5 : decode cX7_init 5 = .ok (.iconst 5, 1) := by decide +kernel
theorem dX7_init_6 : decode cX7_init 6 = .ok (.newarray .long, 2) := by decide +kernel
theorem dX7_init_8 : decode cX7_init 8 = .ok (.putfield 9, 3) := by decide +kernel
theorem dX7_init_11 : decode cX7_init 11 = .ok (.aload_n 0, 1) := by decide +kernel
theorem dX7_init_12 : decode cX7_init 12 = .ok (.iconst 4, 1) := by decide +kernel
theorem dX7_init_13 : decode cX7_init 13 = .ok (.newarray .long, 2) := by decide +kernel
theorem dX7_init_15 : decode cX7_init 15 = .ok (.putfield 15, 3) := by decide +kernel
theorem dX7_init_18 : decode cX7_init 18 = .ok (.aload_n 0, 1) := by decide +kernel
theorem dX7_init_19 : decode cX7_init 19 = .ok (.bipush 6, 2) := by decide +kernel
theorem dX7_init_21 : decode cX7_init 21 = .ok (.newarray .long, 2) := by decide +kernel
theorem dX7_init_23 : decode cX7_init 23 = .ok (.putfield 18, 3) := by decide +kernel
theorem dX7_init_26 : decode cX7_init 26 = .ok (.aload_n 0, 1) := by decide +kernel
theorem dX7_init_27 : decode cX7_init 27 = .ok (.iconst 5, 1) := by decide +kernel
theorem dX7_init_28 : decode cX7_init 28 = .ok (.newarray .int, 2) := by decide +kernel
theorem dX7_init_30 : decode cX7_init 30 = .ok (.putfield 21, 3) := by decide +kernel
theorem dX7_init_33 : decode cX7_init 33 = .ok (.aload_n 0, 1) := by decide +kernel
theorem dX7_init_34 : decode cX7_init 34 = .ok (.iconst 5, 1) := by decide +kernel
theorem dX7_init_35 : decode cX7_init 35 = .ok (.newarray .int, 2) := by decide +kernel
theorem dX7_init_37 : decode cX7_init 37 = .ok (.putfield 25, 3) := by decide +kernel
theorem dX7_init_40 : decode cX7_init 40 = .ok (.aload_n 0, 1) := by decide +kernel
theorem dX7_init_41 : decode cX7_init 41 = .ok (.iconst 4, 1) := by decide +kernel
theorem dX7_init_42 : decode cX7_init 42 = .ok (.newarray .int, 2) := by decide +kernel
theorem dX7_init_44 : decode cX7_init 44 = .ok (.putfield 28, 3) := by decide +kernel
theorem dX7_init_47 : decode cX7_init 47 = .ok (.aload_n 0, 1) := by decide +kernel
theorem dX7_init_48 : decode cX7_init 48 = .ok (.bipush 6, 2) := by decide +kernel
theorem dX7_init_50 : decode cX7_init 50 = .ok (.newarray .int, 2) := by decide +kernel
theorem dX7_init_52 : decode cX7_init 52 = .ok (.putfield 31, 3) := by decide +kernel
theorem dX7_init_55 : decode cX7_init 55 = .ok (.aload_n 0, 1) := by decide +kernel
theorem dX7_init_56 : decode cX7_init 56 = .ok (.bipush 6, 2) := by decide +kernel
theorem dX7_init_58 : decode cX7_init 58 = .ok (.newarray .int, 2) := by decide +kernel
theorem dX7_init_60 : decode cX7_init 60 = .ok (.putfield 34, 3) := by decide +kernel
theorem dX7_init_63 : decode cX7_init 63 = .ok (.aload_n 0, 1) := by decide +kernel
theorem dX7_init_64 : decode cX7_init 64 = .ok (.new 37, 3) := by decide +kernel
theorem dX7_init_67 : decode cX7_init 67 = .ok (.dup, 1) := by decide +kernel
theorem dX7_init_68 : decode cX7_init 68 = .ok (.invokespecial 39, 3) := by decide +kernel
theorem dX7_init_71 : decode cX7_init 71 = .ok (.putfield 40, 3) := by decide +kernel
theorem dX7_init_74 : decode cX7_init 74 = .ok (.return_, 1) := by decide +kernel
theorem ccX7_init : CC mX7_init 0 := ⟨mw (i := 84) (by decide +kernel), mw (i := 3) (by decide +kernel), ⟨by decide +kernel, by decide +kernel, by decide +kernel⟩, by decide⟩
theorem imX7_init : Cond.instanceMethod yX7_init ∈ lg := mw (i := 83) (by decide +kernel)
theorem kcX7 : KC 7 RX7 := ⟨TX7, 12, tyX7, rfl, rfl, iwX7, tyX7_ok, mw (i := 81) (by decide +kernel), mw (i := 3) (by decide +kernel), fun j hj => by
  rcases (show j = 0 ∨ j = 1 ∨ j = 2 ∨ j = 3 ∨ j = 4 ∨ j = 5 ∨ j = 6 ∨ j = 7 ∨ j = 8 ∨ j = 9 ∨ j = 10 ∨ j = 11 by omega) with rfl | rfl | rfl | rfl | rfl | rfl | rfl | rfl | rfl | rfl | rfl | rfl <;> rfl⟩
theorem ffX7_0 : FF0 7 0 RX7 := ⟨.array .long, fun _ => ⟨rfl, rfl⟩, by
  intro C T N h
  cases h
  exact ⟨by decide +kernel, rfl, rfl⟩⟩
theorem ffX7_1 : FF0 7 1 RX7 := ⟨.array .long, fun _ => ⟨rfl, rfl⟩, by
  intro C T N h
  cases h
  exact ⟨by decide +kernel, rfl, rfl⟩⟩
theorem ffX7_2 : FF0 7 2 RX7 := ⟨.array .long, fun _ => ⟨rfl, rfl⟩, by
  intro C T N h
  cases h
  exact ⟨by decide +kernel, rfl, rfl⟩⟩
theorem ffX7_3 : FF0 7 3 RX7 := ⟨.array .int, fun _ => ⟨rfl, rfl⟩, by
  intro C T N h
  cases h
  exact ⟨by decide +kernel, rfl, rfl⟩⟩
theorem ffX7_4 : FF0 7 4 RX7 := ⟨.array .int, fun _ => ⟨rfl, rfl⟩, by
  intro C T N h
  cases h
  exact ⟨by decide +kernel, rfl, rfl⟩⟩
theorem ffX7_5 : FF0 7 5 RX7 := ⟨.array .int, fun _ => ⟨rfl, rfl⟩, by
  intro C T N h
  cases h
  exact ⟨by decide +kernel, rfl, rfl⟩⟩
theorem ffX7_6 : FF0 7 6 RX7 := ⟨.array .int, fun _ => ⟨rfl, rfl⟩, by
  intro C T N h
  cases h
  exact ⟨by decide +kernel, rfl, rfl⟩⟩
theorem ffX7_7 : FF0 7 7 RX7 := ⟨.array .int, fun _ => ⟨rfl, rfl⟩, by
  intro C T N h
  cases h
  exact ⟨by decide +kernel, rfl, rfl⟩⟩
theorem ffX7_8 : FF0 7 8 RX7 := ⟨.object "LaundrySky$Law", fun _ => ⟨rfl, rfl⟩, by
  intro C T N h
  cases h
  exact ⟨by decide +kernel, rfl, rfl⟩⟩
def tX7 (τ : TT) (a : Nat) : TT := st2 (tX0 (st2 (st2 (st2 (st2 (st2 (st2 (st2 (st2 (τ) (a) 0) (a) 1) (a) 2) (a) 3) (a) 4) (a) 5) (a) 6) (a) 7) (a + 1 + 8)) (a) 8
abbrev okX7 (a : Nat) : Prop := sh (a + 1 + 0) = (100 + 1, 5) ∧ sh a = (7, 0) ∧ rf a 0 = a + 1 + 0 ∧ sh (a + 1 + 1) = (100 + 1, 4) ∧ rf a 1 = a + 1 + 1 ∧ sh (a + 1 + 2) = (100 + 1, 6) ∧ rf a 2 = a + 1 + 2 ∧ sh (a + 1 + 3) = (100 + 0, 5) ∧ rf a 3 = a + 1 + 3 ∧ sh (a + 1 + 4) = (100 + 0, 5) ∧ rf a 4 = a + 1 + 4 ∧ sh (a + 1 + 5) = (100 + 0, 4) ∧ rf a 5 = a + 1 + 5 ∧ sh (a + 1 + 6) = (100 + 0, 6) ∧ rf a 6 = a + 1 + 6 ∧ sh (a + 1 + 7) = (100 + 0, 6) ∧ rf a 7 = a + 1 + 7 ∧ sh (a + 1 + 8) = (0, 0) ∧ okX0 (a + 1 + 8) ∧ rf a 8 = a + 1 + 8
theorem frX7 {σ : MM} {τ : TT} {a : Nat} (hF : Fr (a + 1) σ τ) : Fr (a + 1 + 11) (σ) (tX7 τ a) := by
  have hF1 : Fr (a + 1 + 1) (σ) (τ) := hF.mono (by omega)
  have hF2 : Fr (a + 1 + 1) (σ) (st2 (τ) (a) 0) := hF1.st (by omega)
  have hF3 : Fr (a + 1 + 2) (σ) (st2 (τ) (a) 0) := hF2.mono (by omega)
  have hF4 : Fr (a + 1 + 2) (σ) (st2 (st2 (τ) (a) 0) (a) 1) := hF3.st (by omega)
  have hF5 : Fr (a + 1 + 3) (σ) (st2 (st2 (τ) (a) 0) (a) 1) := hF4.mono (by omega)
  have hF6 : Fr (a + 1 + 3) (σ) (st2 (st2 (st2 (τ) (a) 0) (a) 1) (a) 2) := hF5.st (by omega)
  have hF7 : Fr (a + 1 + 4) (σ) (st2 (st2 (st2 (τ) (a) 0) (a) 1) (a) 2) := hF6.mono (by omega)
  have hF8 : Fr (a + 1 + 4) (σ) (st2 (st2 (st2 (st2 (τ) (a) 0) (a) 1) (a) 2) (a) 3) := hF7.st (by omega)
  have hF9 : Fr (a + 1 + 5) (σ) (st2 (st2 (st2 (st2 (τ) (a) 0) (a) 1) (a) 2) (a) 3) := hF8.mono (by omega)
  have hF10 : Fr (a + 1 + 5) (σ) (st2 (st2 (st2 (st2 (st2 (τ) (a) 0) (a) 1) (a) 2) (a) 3) (a) 4) := hF9.st (by omega)
  have hF11 : Fr (a + 1 + 6) (σ) (st2 (st2 (st2 (st2 (st2 (τ) (a) 0) (a) 1) (a) 2) (a) 3) (a) 4) := hF10.mono (by omega)
  have hF12 : Fr (a + 1 + 6) (σ) (st2 (st2 (st2 (st2 (st2 (st2 (τ) (a) 0) (a) 1) (a) 2) (a) 3) (a) 4) (a) 5) := hF11.st (by omega)
  have hF13 : Fr (a + 1 + 7) (σ) (st2 (st2 (st2 (st2 (st2 (st2 (τ) (a) 0) (a) 1) (a) 2) (a) 3) (a) 4) (a) 5) := hF12.mono (by omega)
  have hF14 : Fr (a + 1 + 7) (σ) (st2 (st2 (st2 (st2 (st2 (st2 (st2 (τ) (a) 0) (a) 1) (a) 2) (a) 3) (a) 4) (a) 5) (a) 6) := hF13.st (by omega)
  have hF15 : Fr (a + 1 + 8) (σ) (st2 (st2 (st2 (st2 (st2 (st2 (st2 (τ) (a) 0) (a) 1) (a) 2) (a) 3) (a) 4) (a) 5) (a) 6) := hF14.mono (by omega)
  have hF16 : Fr (a + 1 + 8) (σ) (st2 (st2 (st2 (st2 (st2 (st2 (st2 (st2 (τ) (a) 0) (a) 1) (a) 2) (a) 3) (a) 4) (a) 5) (a) 6) (a) 7) := hF15.st (by omega)
  have hF17 : Fr (a + 1 + 9) (σ) (st2 (st2 (st2 (st2 (st2 (st2 (st2 (st2 (τ) (a) 0) (a) 1) (a) 2) (a) 3) (a) 4) (a) 5) (a) 6) (a) 7) := hF16.mono (by omega)
  have hF18 : Fr (a + 1 + 11) (σ) (tX0 (st2 (st2 (st2 (st2 (st2 (st2 (st2 (st2 (τ) (a) 0) (a) 1) (a) 2) (a) 3) (a) 4) (a) 5) (a) 6) (a) 7) (a + 1 + 8)) := frX0 hF17
  have hF19 : Fr (a + 1 + 11) (σ) (st2 (tX0 (st2 (st2 (st2 (st2 (st2 (st2 (st2 (st2 (τ) (a) 0) (a) 1) (a) 2) (a) 3) (a) 4) (a) 5) (a) 6) (a) 7) (a + 1 + 8)) (a) 8) := hF18.st (by omega)
  exact hF19
set_option maxHeartbeats 4000000 in
set_option maxRecDepth 100000 in
theorem IX7 {l : Launch} {K : KK} {σ : MM} {τ : TT} {a : Nat} (h : okX7 a) (hF : Fr (a + 1) σ τ) : CI l K (a + 1) 11 1068 2 mX7_init [.ref (K.2.1 + a)] σ τ (σ) (tX7 τ a) := by
  obtain ⟨h_s1, h_s0, h_r0_0, h_s2, h_r0_1, h_s3, h_r0_2, h_s4, h_r0_3, h_s5, h_r0_4, h_s6, h_r0_5, h_s7, h_r0_6, h_s8, h_r0_7, h_s9, h_k9, h_r0_8⟩ := h
  refine CI.of (by decide +kernel) rfl (Nat.le_of_ble_eq_true rfl) ?_
  show RN l K (a + 1) 2 11 1068 mX7_init _ 0 [(0, .ref (K.2.1 + a))] [] 0 0 σ τ
  refine rn_aload_n 0 dX7_init_0 rfl ?_
  refine rn_obj (mw (i := 85) (by decide +kernel)) (mw (i := 33) (by decide +kernel)) (mw (i := 34) (by decide +kernel)) (by decide) (by decide) dX7_init_1 ?_
  refine rn_aload_n 0 dX7_init_4 rfl ?_
  refine rn_iconst (nI 5) dX7_init_5 (by decide) ?_
  refine rn_newa (t := 1) (N := 5) (by decide) (mw (i := 103) (by decide +kernel)) h_s1 hF (by decide) (by decide) (by decide) (by decide) (by decide) dX7_init_6 ?_
  have hF1 : Fr (a + 1 + 1) (σ) (τ) := hF.mono (by omega)
  refine rn_putF fi_X7_9 ffX7_0 rfl h_s0 (by decide) (by omega) (by decide) (by rw [h_r0_0]) dX7_init_8 ?_
  have hF2 : Fr (a + 1 + 1) (σ) (st2 (τ) (a) 0) := hF1.st (by omega)
  refine rn_aload_n 0 dX7_init_11 rfl ?_
  refine rn_iconst (nI 4) dX7_init_12 (by decide) ?_
  refine rn_newa (t := 1) (N := 4) (by decide) (mw (i := 103) (by decide +kernel)) h_s2 hF2 (by decide) (by decide) (by decide) (by decide) (by decide) dX7_init_13 ?_
  have hF3 : Fr (a + 1 + 2) (σ) (st2 (τ) (a) 0) := hF2.mono (by omega)
  refine rn_putF fi_X7_15 ffX7_1 rfl h_s0 (by decide) (by omega) (by decide) (by rw [h_r0_1]) dX7_init_15 ?_
  have hF4 : Fr (a + 1 + 2) (σ) (st2 (st2 (τ) (a) 0) (a) 1) := hF3.st (by omega)
  refine rn_aload_n 0 dX7_init_18 rfl ?_
  refine rn_bipush (nI 6) dX7_init_19 (by decide) ?_
  refine rn_newa (t := 1) (N := 6) (by decide) (mw (i := 103) (by decide +kernel)) h_s3 hF4 (by decide) (by decide) (by decide) (by decide) (by decide) dX7_init_21 ?_
  have hF5 : Fr (a + 1 + 3) (σ) (st2 (st2 (τ) (a) 0) (a) 1) := hF4.mono (by omega)
  refine rn_putF fi_X7_18 ffX7_2 rfl h_s0 (by decide) (by omega) (by decide) (by rw [h_r0_2]) dX7_init_23 ?_
  have hF6 : Fr (a + 1 + 3) (σ) (st2 (st2 (st2 (τ) (a) 0) (a) 1) (a) 2) := hF5.st (by omega)
  refine rn_aload_n 0 dX7_init_26 rfl ?_
  refine rn_iconst (nI 5) dX7_init_27 (by decide) ?_
  refine rn_newa (t := 0) (N := 5) (by decide) (mw (i := 104) (by decide +kernel)) h_s4 hF6 (by decide) (by decide) (by decide) (by decide) (by decide) dX7_init_28 ?_
  have hF7 : Fr (a + 1 + 4) (σ) (st2 (st2 (st2 (τ) (a) 0) (a) 1) (a) 2) := hF6.mono (by omega)
  refine rn_putF fi_X7_21 ffX7_3 rfl h_s0 (by decide) (by omega) (by decide) (by rw [h_r0_3]) dX7_init_30 ?_
  have hF8 : Fr (a + 1 + 4) (σ) (st2 (st2 (st2 (st2 (τ) (a) 0) (a) 1) (a) 2) (a) 3) := hF7.st (by omega)
  refine rn_aload_n 0 dX7_init_33 rfl ?_
  refine rn_iconst (nI 5) dX7_init_34 (by decide) ?_
  refine rn_newa (t := 0) (N := 5) (by decide) (mw (i := 104) (by decide +kernel)) h_s5 hF8 (by decide) (by decide) (by decide) (by decide) (by decide) dX7_init_35 ?_
  have hF9 : Fr (a + 1 + 5) (σ) (st2 (st2 (st2 (st2 (τ) (a) 0) (a) 1) (a) 2) (a) 3) := hF8.mono (by omega)
  refine rn_putF fi_X7_25 ffX7_4 rfl h_s0 (by decide) (by omega) (by decide) (by rw [h_r0_4]) dX7_init_37 ?_
  have hF10 : Fr (a + 1 + 5) (σ) (st2 (st2 (st2 (st2 (st2 (τ) (a) 0) (a) 1) (a) 2) (a) 3) (a) 4) := hF9.st (by omega)
  refine rn_aload_n 0 dX7_init_40 rfl ?_
  refine rn_iconst (nI 4) dX7_init_41 (by decide) ?_
  refine rn_newa (t := 0) (N := 4) (by decide) (mw (i := 104) (by decide +kernel)) h_s6 hF10 (by decide) (by decide) (by decide) (by decide) (by decide) dX7_init_42 ?_
  have hF11 : Fr (a + 1 + 6) (σ) (st2 (st2 (st2 (st2 (st2 (τ) (a) 0) (a) 1) (a) 2) (a) 3) (a) 4) := hF10.mono (by omega)
  refine rn_putF fi_X7_28 ffX7_5 rfl h_s0 (by decide) (by omega) (by decide) (by rw [h_r0_5]) dX7_init_44 ?_
  have hF12 : Fr (a + 1 + 6) (σ) (st2 (st2 (st2 (st2 (st2 (st2 (τ) (a) 0) (a) 1) (a) 2) (a) 3) (a) 4) (a) 5) := hF11.st (by omega)
  refine rn_aload_n 0 dX7_init_47 rfl ?_
  refine rn_bipush (nI 6) dX7_init_48 (by decide) ?_
  refine rn_newa (t := 0) (N := 6) (by decide) (mw (i := 104) (by decide +kernel)) h_s7 hF12 (by decide) (by decide) (by decide) (by decide) (by decide) dX7_init_50 ?_
  have hF13 : Fr (a + 1 + 7) (σ) (st2 (st2 (st2 (st2 (st2 (st2 (τ) (a) 0) (a) 1) (a) 2) (a) 3) (a) 4) (a) 5) := hF12.mono (by omega)
  refine rn_putF fi_X7_31 ffX7_6 rfl h_s0 (by decide) (by omega) (by decide) (by rw [h_r0_6]) dX7_init_52 ?_
  have hF14 : Fr (a + 1 + 7) (σ) (st2 (st2 (st2 (st2 (st2 (st2 (st2 (τ) (a) 0) (a) 1) (a) 2) (a) 3) (a) 4) (a) 5) (a) 6) := hF13.st (by omega)
  refine rn_aload_n 0 dX7_init_55 rfl ?_
  refine rn_bipush (nI 6) dX7_init_56 (by decide) ?_
  refine rn_newa (t := 0) (N := 6) (by decide) (mw (i := 104) (by decide +kernel)) h_s8 hF14 (by decide) (by decide) (by decide) (by decide) (by decide) dX7_init_58 ?_
  have hF15 : Fr (a + 1 + 8) (σ) (st2 (st2 (st2 (st2 (st2 (st2 (st2 (τ) (a) 0) (a) 1) (a) 2) (a) 3) (a) 4) (a) 5) (a) 6) := hF14.mono (by omega)
  refine rn_putF fi_X7_34 ffX7_7 rfl h_s0 (by decide) (by omega) (by decide) (by rw [h_r0_7]) dX7_init_60 ?_
  have hF16 : Fr (a + 1 + 8) (σ) (st2 (st2 (st2 (st2 (st2 (st2 (st2 (st2 (τ) (a) 0) (a) 1) (a) 2) (a) 3) (a) 4) (a) 5) (a) 6) (a) 7) := hF15.st (by omega)
  refine rn_aload_n 0 dX7_init_63 rfl ?_
  refine rn_new (ci := 0) (N := 3) kcX0 (by decide) (by decide) (mw (i := 86) (by decide +kernel)) h_s9 hF16 (by decide) (by decide) dX7_init_64 ?_
  have hF17 : Fr (a + 1 + 9) (σ) (st2 (st2 (st2 (st2 (st2 (st2 (st2 (st2 (τ) (a) 0) (a) 1) (a) 2) (a) 3) (a) 4) (a) 5) (a) 6) (a) 7) := hF16.mono (by omega)
  refine rn_dup dX7_init_67 rfl ?_
  refine rn_callN (b := a + 1 + 8) (mc := 2) (ms := 1024) (d' := 1) [] (IX0 (a := a + 1 + 8) h_k9 hF17) ccX0_init imX0_init rfl (by decide) (by decide) rfl rfl (Nat.le_of_ble_eq_true rfl) dX7_init_68 (by decide) (by decide) ?_
  have hF18 : Fr (a + 1 + 11) (σ) (tX0 (st2 (st2 (st2 (st2 (st2 (st2 (st2 (st2 (τ) (a) 0) (a) 1) (a) 2) (a) 3) (a) 4) (a) 5) (a) 6) (a) 7) (a + 1 + 8)) := frX0 hF17
  refine rn_putF fi_X7_40 ffX7_8 rfl h_s0 (by decide) (by omega) (by decide) (by rw [h_r0_8]) dX7_init_71 ?_
  have hF19 : Fr (a + 1 + 11) (σ) (st2 (tX0 (st2 (st2 (st2 (st2 (st2 (st2 (st2 (st2 (τ) (a) 0) (a) 1) (a) 2) (a) 3) (a) 4) (a) 5) (a) 6) (a) 7) (a + 1 + 8)) (a) 8) := hF18.st (by omega)
  exact rn_ret rfl dX7_init_74
abbrev mX8_init : MI := (RX8, yX8_init, cX8_init, 2, none)
theorem dX8_init_0 : decode cX8_init 0 = .ok (.aload_n 0, 1) := by decide +kernel
theorem dX8_init_1 : decode cX8_init 1 = .ok (.invokespecial 3, 3) := by decide +kernel
theorem dX8_init_4 : decode cX8_init 4 = .ok (.aload_n 0, 1) := by decide +kernel
theorem dX8_init_5 : decode cX8_init 5 = .ok (.new 9, 3) := by decide +kernel
theorem dX8_init_8 : decode cX8_init 8 = .ok (.dup, 1) := by decide +kernel
theorem dX8_init_9 : decode cX8_init 9 = .ok (.invokespecial 11, 3) := by decide +kernel
theorem dX8_init_12 : decode cX8_init 12 = .ok (.putfield 12, 3) := by decide +kernel
theorem dX8_init_15 : decode cX8_init 15 = .ok (.aload_n 0, 1) := by decide +kernel
theorem dX8_init_16 : decode cX8_init 16 = .ok (.aload_n 1, 1) := by decide +kernel
theorem dX8_init_17 : decode cX8_init 17 = .ok (.putfield 18, 3) := by decide +kernel
theorem dX8_init_20 : decode cX8_init 20 = .ok (.return_, 1) := by decide +kernel
theorem ccX8_init : CC mX8_init 1 := ⟨mw (i := 180) (by decide +kernel), mw (i := 5) (by decide +kernel), ⟨by decide +kernel, by decide +kernel, by decide +kernel⟩, by decide⟩
theorem imX8_init : Cond.instanceMethod yX8_init ∈ lg := mw (i := 179) (by decide +kernel)
theorem kcX8 : KC 8 RX8 := ⟨TX8, 3, tyX8, rfl, rfl, iwX8, tyX8_ok, mw (i := 177) (by decide +kernel), mw (i := 5) (by decide +kernel), fun j hj => by
  rcases (show j = 0 ∨ j = 1 ∨ j = 2 by omega) with rfl | rfl | rfl <;> rfl⟩
theorem ffX8_0 : FF0 8 0 RX8 := ⟨.object "LaundrySky$Tape", fun _ => ⟨rfl, rfl⟩, by
  intro C T N h
  cases h
  exact ⟨by decide +kernel, rfl, rfl⟩⟩
theorem ffX8_1 : FF0 8 1 RX8 := ⟨.object "LaundrySky$Town", fun _ => ⟨rfl, rfl⟩, by
  intro C T N h
  cases h
  exact ⟨by decide +kernel, rfl, rfl⟩⟩
def tX8 (τ : TT) (a : Nat) : TT := st2 (st2 (tX7 (τ) (a + 1 + 0)) (a) 1) (a) 0
abbrev okX8 (a p : Nat) : Prop := sh (a + 1 + 0) = (7, 0) ∧ okX7 (a + 1 + 0) ∧ sh a = (8, 0) ∧ rf a 1 = a + 1 + 0 ∧ rf a 0 = p
theorem frX8 {σ : MM} {τ : TT} {a : Nat} (hF : Fr (a + 1) σ τ) : Fr (a + 1 + 12) (σ) (tX8 τ a) := by
  have hF1 : Fr (a + 1 + 1) (σ) (τ) := hF.mono (by omega)
  have hF2 : Fr (a + 1 + 12) (σ) (tX7 (τ) (a + 1 + 0)) := frX7 hF1
  have hF3 : Fr (a + 1 + 12) (σ) (st2 (tX7 (τ) (a + 1 + 0)) (a) 1) := hF2.st (by omega)
  have hF4 : Fr (a + 1 + 12) (σ) (st2 (st2 (tX7 (τ) (a + 1 + 0)) (a) 1) (a) 0) := hF3.st (by omega)
  exact hF4
set_option maxHeartbeats 4000000 in
set_option maxRecDepth 100000 in
theorem IX8 {l : Launch} {K : KK} {σ : MM} {τ : TT} {a p : Nat} (h : okX8 a p) (hF : Fr (a + 1) σ τ) : CI l K (a + 1) 12 1080 3 mX8_init [.ref (K.2.1 + a), .ref (K.2.1 + p)] σ τ (σ) (tX8 τ a) := by
  obtain ⟨h_s1, h_k1, h_s0, h_r0_1, h_r0_0⟩ := h
  refine CI.of (by decide +kernel) rfl (Nat.le_of_ble_eq_true rfl) ?_
  show RN l K (a + 1) 3 12 1080 mX8_init _ 0 [(0, .ref (K.2.1 + a)), (1, .ref (K.2.1 + p))] [] 0 0 σ τ
  refine rn_aload_n 0 dX8_init_0 rfl ?_
  refine rn_obj (mw (i := 181) (by decide +kernel)) (mw (i := 33) (by decide +kernel)) (mw (i := 34) (by decide +kernel)) (by decide) (by decide) dX8_init_1 ?_
  refine rn_aload_n 0 dX8_init_4 rfl ?_
  refine rn_new (ci := 7) (N := 12) kcX7 (by decide) (by decide) (mw (i := 182) (by decide +kernel)) h_s1 hF (by decide) (by decide) dX8_init_5 ?_
  have hF1 : Fr (a + 1 + 1) (σ) (τ) := hF.mono (by omega)
  refine rn_dup dX8_init_8 rfl ?_
  refine rn_callN (b := a + 1 + 0) (mc := 11) (ms := 1068) (d' := 2) [] (IX7 (a := a + 1 + 0) h_k1 hF1) ccX7_init imX7_init rfl (by decide) (by decide) rfl rfl (Nat.le_of_ble_eq_true rfl) dX8_init_9 (by decide) (by decide) ?_
  have hF2 : Fr (a + 1 + 12) (σ) (tX7 (τ) (a + 1 + 0)) := frX7 hF1
  refine rn_putF fi_X8_12 ffX8_1 rfl h_s0 (by decide) (by omega) (by decide) (by rw [h_r0_1]) dX8_init_12 ?_
  have hF3 : Fr (a + 1 + 12) (σ) (st2 (tX7 (τ) (a + 1 + 0)) (a) 1) := hF2.st (by omega)
  refine rn_aload_n 0 dX8_init_15 rfl ?_
  refine rn_aload_n 1 dX8_init_16 rfl ?_
  refine rn_putF fi_X8_18 ffX8_0 rfl h_s0 (by decide) (by omega) (by decide) (by rw [h_r0_0]) dX8_init_17 ?_
  have hF4 : Fr (a + 1 + 12) (σ) (st2 (st2 (tX7 (τ) (a + 1 + 0)) (a) 1) (a) 0) := hF3.st (by omega)
  exact rn_ret rfl dX8_init_20
abbrev mX1_init : MI := (RX1, yX1_init, cX1_init, 2, none)
theorem dX1_init_0 : decode cX1_init 0 = .ok (.aload_n 0, 1) := by decide +kernel
theorem dX1_init_1 : decode cX1_init 1 = .ok (.invokespecial 3, 3) := by decide +kernel
theorem dX1_init_4 : decode cX1_init 4 = .ok (.aload_n 0, 1) := by decide +kernel
theorem dX1_init_5 : decode cX1_init 5 = .ok (.iconst 4, 1) := by decide +kernel
theorem dX1_init_6 : decode cX1_init 6 = .ok (.newarray .int, 2) := by decide +kernel
theorem dX1_init_8 : decode cX1_init 8 = .ok (.putfield 9, 3) := by decide +kernel
theorem dX1_init_11 : decode cX1_init 11 = .ok (.aload_n 0, 1) := by decide +kernel
theorem dX1_init_12 : decode cX1_init 12 = .ok (.new 15, 3) := by decide +kernel
theorem dX1_init_15 : decode cX1_init 15 = .ok (.dup, 1) := by decide +kernel
theorem dX1_init_16 : decode cX1_init 16 = .ok (.aload_n 1, 1) := by decide +kernel
theorem dX1_init_17 : decode cX1_init 17 = .ok (.invokespecial 17, 3) := by decide +kernel
theorem dX1_init_20 : decode cX1_init 20 = .ok (.putfield 20, 3) := by decide +kernel
theorem dX1_init_23 : decode cX1_init 23 = .ok (.aload_n 0, 1) := by decide +kernel
theorem dX1_init_24 : decode cX1_init 24 = .ok (.new 24, 3) := by decide +kernel
theorem dX1_init_27 : decode cX1_init 27 = .ok (.dup, 1) := by decide +kernel
theorem dX1_init_28 : decode cX1_init 28 = .ok (.aload_n 0, 1) := by decide +kernel
theorem dX1_init_29 : decode cX1_init 29 = .ok (.getfield 20, 3) := by decide +kernel
theorem dX1_init_32 : decode cX1_init 32 = .ok (.invokespecial 26, 3) := by decide +kernel
theorem dX1_init_35 : decode cX1_init 35 = .ok (.putfield 29, 3) := by decide +kernel
theorem dX1_init_38 : decode cX1_init 38 = .ok (.return_, 1) := by decide +kernel
theorem ccX1_init : CC mX1_init 1 := ⟨mw (i := 353) (by decide +kernel), mw (i := 11) (by decide +kernel), ⟨by decide +kernel, by decide +kernel, by decide +kernel⟩, by decide⟩
theorem imX1_init : Cond.instanceMethod yX1_init ∈ lg := mw (i := 352) (by decide +kernel)
theorem kcX1 : KC 1 RX1 := ⟨TX1, 4, tyX1, rfl, rfl, iwX1, tyX1_ok, mw (i := 350) (by decide +kernel), mw (i := 11) (by decide +kernel), fun j hj => by
  rcases (show j = 0 ∨ j = 1 ∨ j = 2 ∨ j = 3 by omega) with rfl | rfl | rfl | rfl <;> rfl⟩
theorem ffX1_0 : FF0 1 0 RX1 := ⟨.object "LaundrySky$Sky", fun _ => ⟨rfl, rfl⟩, by
  intro C T N h
  cases h
  exact ⟨by decide +kernel, rfl, rfl⟩⟩
theorem ffX1_1 : FF0 1 1 RX1 := ⟨.array .int, fun _ => ⟨rfl, rfl⟩, by
  intro C T N h
  cases h
  exact ⟨by decide +kernel, rfl, rfl⟩⟩
theorem ffX1_2 : FF0 1 2 RX1 := ⟨.object "LaundrySky$Tellings", fun _ => ⟨rfl, rfl⟩, by
  intro C T N h
  cases h
  exact ⟨by decide +kernel, rfl, rfl⟩⟩
def tX1 (τ : TT) (a : Nat) : TT := st2 (tX6 (st2 (tX4 (st2 (τ) (a) 1) (a + 1 + 1)) (a) 0) (a + 1 + 6)) (a) 2
abbrev okX1 (a p : Nat) : Prop := sh (a + 1 + 0) = (100 + 0, 4) ∧ sh a = (1, 0) ∧ rf a 1 = a + 1 + 0 ∧ sh (a + 1 + 1) = (4, 0) ∧ okX4 (a + 1 + 1) p ∧ rf a 0 = a + 1 + 1 ∧ sh (a + 1 + 6) = (6, 0) ∧ okX6 (a + 1 + 6) (a + 1 + 1) ∧ rf a 2 = a + 1 + 6
theorem frX1 {σ : MM} {τ : TT} {a : Nat} (hF : Fr (a + 1) σ τ) : Fr (a + 1 + 16) (σ) (tX1 τ a) := by
  have hF1 : Fr (a + 1 + 1) (σ) (τ) := hF.mono (by omega)
  have hF2 : Fr (a + 1 + 1) (σ) (st2 (τ) (a) 1) := hF1.st (by omega)
  have hF3 : Fr (a + 1 + 2) (σ) (st2 (τ) (a) 1) := hF2.mono (by omega)
  have hF4 : Fr (a + 1 + 6) (σ) (tX4 (st2 (τ) (a) 1) (a + 1 + 1)) := frX4 hF3
  have hF5 : Fr (a + 1 + 6) (σ) (st2 (tX4 (st2 (τ) (a) 1) (a + 1 + 1)) (a) 0) := hF4.st (by omega)
  have hF6 : Fr (a + 1 + 7) (σ) (st2 (tX4 (st2 (τ) (a) 1) (a + 1 + 1)) (a) 0) := hF5.mono (by omega)
  have hF7 : Fr (a + 1 + 16) (σ) (tX6 (st2 (tX4 (st2 (τ) (a) 1) (a + 1 + 1)) (a) 0) (a + 1 + 6)) := frX6 hF6
  have hF8 : Fr (a + 1 + 16) (σ) (st2 (tX6 (st2 (tX4 (st2 (τ) (a) 1) (a + 1 + 1)) (a) 0) (a + 1 + 6)) (a) 2) := hF7.st (by omega)
  exact hF8
set_option maxHeartbeats 4000000 in
set_option maxRecDepth 100000 in
theorem IX1 {l : Launch} {K : KK} {σ : MM} {τ : TT} {a p : Nat} (h : okX1 a p) (hF : Fr (a + 1) σ τ) : CI l K (a + 1) 16 89 2 mX1_init [.ref (K.2.1 + a), .ref (K.2.1 + p)] σ τ (σ) (tX1 τ a) := by
  obtain ⟨h_s1, h_s0, h_r0_1, h_s2, h_k2, h_r0_0, h_s7, h_k7, h_r0_2⟩ := h
  refine CI.of (by decide +kernel) rfl (Nat.le_of_ble_eq_true rfl) ?_
  show RN l K (a + 1) 2 16 89 mX1_init _ 0 [(0, .ref (K.2.1 + a)), (1, .ref (K.2.1 + p))] [] 0 0 σ τ
  refine rn_aload_n 0 dX1_init_0 rfl ?_
  refine rn_obj (mw (i := 354) (by decide +kernel)) (mw (i := 33) (by decide +kernel)) (mw (i := 34) (by decide +kernel)) (by decide) (by decide) dX1_init_1 ?_
  refine rn_aload_n 0 dX1_init_4 rfl ?_
  refine rn_iconst (nI 4) dX1_init_5 (by decide) ?_
  refine rn_newa (t := 0) (N := 4) (by decide) (mw (i := 104) (by decide +kernel)) h_s1 hF (by decide) (by decide) (by decide) (by decide) (by decide) dX1_init_6 ?_
  have hF1 : Fr (a + 1 + 1) (σ) (τ) := hF.mono (by omega)
  refine rn_putF fi_X1_9 ffX1_1 rfl h_s0 (by decide) (by omega) (by decide) (by rw [h_r0_1]) dX1_init_8 ?_
  have hF2 : Fr (a + 1 + 1) (σ) (st2 (τ) (a) 1) := hF1.st (by omega)
  refine rn_aload_n 0 dX1_init_11 rfl ?_
  refine rn_new (ci := 4) (N := 7) kcX4 (by decide) (by decide) (mw (i := 355) (by decide +kernel)) h_s2 hF2 (by decide) (by decide) dX1_init_12 ?_
  have hF3 : Fr (a + 1 + 2) (σ) (st2 (τ) (a) 1) := hF2.mono (by omega)
  refine rn_dup dX1_init_15 rfl ?_
  refine rn_aload_n 1 dX1_init_16 rfl ?_
  refine rn_call (b := a + 1 + 1) (mc := 4) (ms := 22) (d' := 1) [.ref (K.2.1 + p)] (IX4 (a := a + 1 + 1) (p := p) h_k2 hF3) ccX4_init imX4_init rfl (mw (i := 356) (by decide +kernel)) (by decide) rfl rfl (Nat.le_of_ble_eq_true rfl) dX1_init_17 (by decide) (by decide) ?_
  have hF4 : Fr (a + 1 + 6) (σ) (tX4 (st2 (τ) (a) 1) (a + 1 + 1)) := frX4 hF3
  refine rn_putF fi_X1_20 ffX1_0 rfl h_s0 (by decide) (by omega) (by decide) (by rw [h_r0_0]) dX1_init_20 ?_
  have hF5 : Fr (a + 1 + 6) (σ) (st2 (tX4 (st2 (τ) (a) 1) (a + 1 + 1)) (a) 0) := hF4.st (by omega)
  refine rn_aload_n 0 dX1_init_23 rfl ?_
  refine rn_new (ci := 6) (N := 10) kcX6 (by decide) (by decide) (mw (i := 357) (by decide +kernel)) h_s7 hF5 (by decide) (by decide) dX1_init_24 ?_
  have hF6 : Fr (a + 1 + 7) (σ) (st2 (tX4 (st2 (τ) (a) 1) (a + 1 + 1)) (a) 0) := hF5.mono (by omega)
  refine rn_dup dX1_init_27 rfl ?_
  refine rn_aload_n 0 dX1_init_28 rfl ?_
  refine rn_getR fi_X1_20 h_s0 (by decide) (by omega) (by decide) (by simp [st2, t4]) dX1_init_29 ?_
  rw [h_r0_0]
  refine rn_call (b := a + 1 + 6) (mc := 9) (ms := 46) (d' := 1) [.ref (K.2.1 + (a + 1 + 1))] (IX6 (a := a + 1 + 6) (p := a + 1 + 1) h_k7 hF6) ccX6_init imX6_init rfl (mw (i := 358) (by decide +kernel)) (by decide) rfl rfl (Nat.le_of_ble_eq_true rfl) dX1_init_32 (by decide) (by decide) ?_
  have hF7 : Fr (a + 1 + 16) (σ) (tX6 (st2 (tX4 (st2 (τ) (a) 1) (a + 1 + 1)) (a) 0) (a + 1 + 6)) := frX6 hF6
  refine rn_putF fi_X1_29 ffX1_2 rfl h_s0 (by decide) (by omega) (by decide) (by rw [h_r0_2]) dX1_init_35 ?_
  have hF8 : Fr (a + 1 + 16) (σ) (st2 (tX6 (st2 (tX4 (st2 (τ) (a) 1) (a + 1 + 1)) (a) 0) (a + 1 + 6)) (a) 2) := hF7.st (by omega)
  exact rn_ret rfl dX1_init_38
