/-! ===== the constructors: what was, the whole ===== -/
abbrev mX2_init : MI := (RX2, yX2_init, cX2_init, 3, none)
theorem dX2_init_0 : decode cX2_init 0 = .ok (.aload_n 0, 1) := by decide +kernel
theorem dX2_init_1 : decode cX2_init 1 = .ok (.invokespecial 3, 3) := by decide +kernel
theorem dX2_init_4 : decode cX2_init 4 = .ok (.aload_n 0, 1) := by decide +kernel
theorem dX2_init_5 : decode cX2_init 5 = .ok (.bipush 16, 2) := by decide +kernel
theorem dX2_init_7 : decode cX2_init 7 = .ok (.anewarray 9, 3) := by decide +kernel
theorem dX2_init_10 : decode cX2_init 10 = .ok (.putfield 11, 3) := by decide +kernel
theorem dX2_init_13 : decode cX2_init 13 = .ok (.iconst 0, 1) := by decide +kernel
theorem dX2_init_14 : decode cX2_init 14 = .ok (.istore_n 2, 1) := by decide +kernel
theorem dX2_init_15 : decode cX2_init 15 = .ok (.iload_n 2, 1) := by decide +kernel
theorem dX2_init_16 : decode cX2_init 16 = .ok (.aload_n 0, 1) := by decide +kernel
theorem dX2_init_17 : decode cX2_init 17 = .ok (.getfield 11, 3) := by decide +kernel
theorem dX2_init_20 : decode cX2_init 20 = .ok (.arraylength, 1) := by decide +kernel
theorem dX2_init_21 : decode cX2_init 21 = .ok (.if_icmp .ge 23, 3) := by decide +kernel
theorem dX2_init_24 : decode cX2_init 24 = .ok (.aload_n 0, 1) := by decide +kernel
theorem dX2_init_25 : decode cX2_init 25 = .ok (.getfield 11, 3) := by decide +kernel
theorem dX2_init_28 : decode cX2_init 28 = .ok (.iload_n 2, 1) := by decide +kernel
theorem dX2_init_29 : decode cX2_init 29 = .ok (.new 9, 3) := by decide +kernel
theorem dX2_init_32 : decode cX2_init 32 = .ok (.dup, 1) := by decide +kernel
theorem dX2_init_33 : decode cX2_init 33 = .ok (.aload_n 1, 1) := by decide +kernel
theorem dX2_init_34 : decode cX2_init 34 = .ok (.invokespecial 17, 3) := by decide +kernel
theorem dX2_init_37 : decode cX2_init 37 = .ok (.aastore, 1) := by decide +kernel
theorem dX2_init_38 : decode cX2_init 38 = .ok (.iinc 2 1, 3) := by decide +kernel
theorem dX2_init_41 : decode cX2_init 41 = .ok (.goto (-26), 3) := by decide +kernel
theorem dX2_init_44 : decode cX2_init 44 = .ok (.return_, 1) := by decide +kernel
theorem ccX2_init : CC mX2_init 1 := ⟨mw (i := 267) (by decide +kernel), mw (i := 8) (by decide +kernel), ⟨by decide +kernel, by decide +kernel, by decide +kernel⟩, by decide⟩
theorem imX2_init : Cond.instanceMethod yX2_init ∈ lg := mw (i := 266) (by decide +kernel)
theorem kcX2 : KC 2 RX2 := ⟨TX2, 3, tyX2, rfl, rfl, iwX2, tyX2_ok, mw (i := 264) (by decide +kernel), mw (i := 8) (by decide +kernel), fun j hj => by
  rcases (show j = 0 ∨ j = 1 ∨ j = 2 by omega) with rfl | rfl | rfl <;> rfl⟩
theorem ffX2_0 : FF0 2 0 RX2 := ⟨.array (.object "LaundrySky$Sky"), fun _ => ⟨rfl, rfl⟩, by
  intro C T N h
  cases h
  exact ⟨by decide +kernel, rfl, rfl⟩⟩
def tX2 (τ : TT) : TT := st2 (tX4 (st2 (tX4 (st2 (tX4 (st2 (tX4 (st2 (tX4 (st2 (tX4 (st2 (tX4 (st2 (tX4 (st2 (tX4 (st2 (tX4 (st2 (tX4 (st2 (tX4 (st2 (tX4 (st2 (tX4 (st2 (tX4 (st2 (tX4 (st2 (τ) (48) 0) (50)) (49) 0) (55)) (49) 1) (60)) (49) 2) (65)) (49) 3) (70)) (49) 4) (75)) (49) 5) (80)) (49) 6) (85)) (49) 7) (90)) (49) 8) (95)) (49) 9) (100)) (49) 10) (105)) (49) 11) (110)) (49) 12) (115)) (49) 13) (120)) (49) 14) (125)) (49) 15
theorem frX2 {σ : MM} {τ : TT} (hF : Fr (49) σ τ) : Fr (49 + 81) (σ) (tX2 τ) := by
  have hF1 : Fr (49 + 1) (σ) (τ) := hF.mono (by omega)
  have hF2 : Fr (49 + 1) (σ) (st2 (τ) (48) 0) := hF1.st (by omega)
  have hF3 : Fr (49 + 2) (σ) (st2 (τ) (48) 0) := hF2.mono (by omega)
  have hF4 : Fr (49 + 6) (σ) (tX4 (st2 (τ) (48) 0) (50)) := frX4 hF3
  have hF5 : Fr (49 + 6) (σ) (st2 (tX4 (st2 (τ) (48) 0) (50)) (49) 0) := hF4.st (by omega)
  have hF6 : Fr (49 + 7) (σ) (st2 (tX4 (st2 (τ) (48) 0) (50)) (49) 0) := hF5.mono (by omega)
  have hF7 : Fr (49 + 11) (σ) (tX4 (st2 (tX4 (st2 (τ) (48) 0) (50)) (49) 0) (55)) := frX4 hF6
  have hF8 : Fr (49 + 11) (σ) (st2 (tX4 (st2 (tX4 (st2 (τ) (48) 0) (50)) (49) 0) (55)) (49) 1) := hF7.st (by omega)
  have hF9 : Fr (49 + 12) (σ) (st2 (tX4 (st2 (tX4 (st2 (τ) (48) 0) (50)) (49) 0) (55)) (49) 1) := hF8.mono (by omega)
  have hF10 : Fr (49 + 16) (σ) (tX4 (st2 (tX4 (st2 (tX4 (st2 (τ) (48) 0) (50)) (49) 0) (55)) (49) 1) (60)) := frX4 hF9
  have hF11 : Fr (49 + 16) (σ) (st2 (tX4 (st2 (tX4 (st2 (tX4 (st2 (τ) (48) 0) (50)) (49) 0) (55)) (49) 1) (60)) (49) 2) := hF10.st (by omega)
  have hF12 : Fr (49 + 17) (σ) (st2 (tX4 (st2 (tX4 (st2 (tX4 (st2 (τ) (48) 0) (50)) (49) 0) (55)) (49) 1) (60)) (49) 2) := hF11.mono (by omega)
  have hF13 : Fr (49 + 21) (σ) (tX4 (st2 (tX4 (st2 (tX4 (st2 (tX4 (st2 (τ) (48) 0) (50)) (49) 0) (55)) (49) 1) (60)) (49) 2) (65)) := frX4 hF12
  have hF14 : Fr (49 + 21) (σ) (st2 (tX4 (st2 (tX4 (st2 (tX4 (st2 (tX4 (st2 (τ) (48) 0) (50)) (49) 0) (55)) (49) 1) (60)) (49) 2) (65)) (49) 3) := hF13.st (by omega)
  have hF15 : Fr (49 + 22) (σ) (st2 (tX4 (st2 (tX4 (st2 (tX4 (st2 (tX4 (st2 (τ) (48) 0) (50)) (49) 0) (55)) (49) 1) (60)) (49) 2) (65)) (49) 3) := hF14.mono (by omega)
  have hF16 : Fr (49 + 26) (σ) (tX4 (st2 (tX4 (st2 (tX4 (st2 (tX4 (st2 (tX4 (st2 (τ) (48) 0) (50)) (49) 0) (55)) (49) 1) (60)) (49) 2) (65)) (49) 3) (70)) := frX4 hF15
  have hF17 : Fr (49 + 26) (σ) (st2 (tX4 (st2 (tX4 (st2 (tX4 (st2 (tX4 (st2 (tX4 (st2 (τ) (48) 0) (50)) (49) 0) (55)) (49) 1) (60)) (49) 2) (65)) (49) 3) (70)) (49) 4) := hF16.st (by omega)
  have hF18 : Fr (49 + 27) (σ) (st2 (tX4 (st2 (tX4 (st2 (tX4 (st2 (tX4 (st2 (tX4 (st2 (τ) (48) 0) (50)) (49) 0) (55)) (49) 1) (60)) (49) 2) (65)) (49) 3) (70)) (49) 4) := hF17.mono (by omega)
  have hF19 : Fr (49 + 31) (σ) (tX4 (st2 (tX4 (st2 (tX4 (st2 (tX4 (st2 (tX4 (st2 (tX4 (st2 (τ) (48) 0) (50)) (49) 0) (55)) (49) 1) (60)) (49) 2) (65)) (49) 3) (70)) (49) 4) (75)) := frX4 hF18
  have hF20 : Fr (49 + 31) (σ) (st2 (tX4 (st2 (tX4 (st2 (tX4 (st2 (tX4 (st2 (tX4 (st2 (tX4 (st2 (τ) (48) 0) (50)) (49) 0) (55)) (49) 1) (60)) (49) 2) (65)) (49) 3) (70)) (49) 4) (75)) (49) 5) := hF19.st (by omega)
  have hF21 : Fr (49 + 32) (σ) (st2 (tX4 (st2 (tX4 (st2 (tX4 (st2 (tX4 (st2 (tX4 (st2 (tX4 (st2 (τ) (48) 0) (50)) (49) 0) (55)) (49) 1) (60)) (49) 2) (65)) (49) 3) (70)) (49) 4) (75)) (49) 5) := hF20.mono (by omega)
  have hF22 : Fr (49 + 36) (σ) (tX4 (st2 (tX4 (st2 (tX4 (st2 (tX4 (st2 (tX4 (st2 (tX4 (st2 (tX4 (st2 (τ) (48) 0) (50)) (49) 0) (55)) (49) 1) (60)) (49) 2) (65)) (49) 3) (70)) (49) 4) (75)) (49) 5) (80)) := frX4 hF21
  have hF23 : Fr (49 + 36) (σ) (st2 (tX4 (st2 (tX4 (st2 (tX4 (st2 (tX4 (st2 (tX4 (st2 (tX4 (st2 (tX4 (st2 (τ) (48) 0) (50)) (49) 0) (55)) (49) 1) (60)) (49) 2) (65)) (49) 3) (70)) (49) 4) (75)) (49) 5) (80)) (49) 6) := hF22.st (by omega)
  have hF24 : Fr (49 + 37) (σ) (st2 (tX4 (st2 (tX4 (st2 (tX4 (st2 (tX4 (st2 (tX4 (st2 (tX4 (st2 (tX4 (st2 (τ) (48) 0) (50)) (49) 0) (55)) (49) 1) (60)) (49) 2) (65)) (49) 3) (70)) (49) 4) (75)) (49) 5) (80)) (49) 6) := hF23.mono (by omega)
  have hF25 : Fr (49 + 41) (σ) (tX4 (st2 (tX4 (st2 (tX4 (st2 (tX4 (st2 (tX4 (st2 (tX4 (st2 (tX4 (st2 (tX4 (st2 (τ) (48) 0) (50)) (49) 0) (55)) (49) 1) (60)) (49) 2) (65)) (49) 3) (70)) (49) 4) (75)) (49) 5) (80)) (49) 6) (85)) := frX4 hF24
  have hF26 : Fr (49 + 41) (σ) (st2 (tX4 (st2 (tX4 (st2 (tX4 (st2 (tX4 (st2 (tX4 (st2 (tX4 (st2 (tX4 (st2 (tX4 (st2 (τ) (48) 0) (50)) (49) 0) (55)) (49) 1) (60)) (49) 2) (65)) (49) 3) (70)) (49) 4) (75)) (49) 5) (80)) (49) 6) (85)) (49) 7) := hF25.st (by omega)
  have hF27 : Fr (49 + 42) (σ) (st2 (tX4 (st2 (tX4 (st2 (tX4 (st2 (tX4 (st2 (tX4 (st2 (tX4 (st2 (tX4 (st2 (tX4 (st2 (τ) (48) 0) (50)) (49) 0) (55)) (49) 1) (60)) (49) 2) (65)) (49) 3) (70)) (49) 4) (75)) (49) 5) (80)) (49) 6) (85)) (49) 7) := hF26.mono (by omega)
  have hF28 : Fr (49 + 46) (σ) (tX4 (st2 (tX4 (st2 (tX4 (st2 (tX4 (st2 (tX4 (st2 (tX4 (st2 (tX4 (st2 (tX4 (st2 (tX4 (st2 (τ) (48) 0) (50)) (49) 0) (55)) (49) 1) (60)) (49) 2) (65)) (49) 3) (70)) (49) 4) (75)) (49) 5) (80)) (49) 6) (85)) (49) 7) (90)) := frX4 hF27
  have hF29 : Fr (49 + 46) (σ) (st2 (tX4 (st2 (tX4 (st2 (tX4 (st2 (tX4 (st2 (tX4 (st2 (tX4 (st2 (tX4 (st2 (tX4 (st2 (tX4 (st2 (τ) (48) 0) (50)) (49) 0) (55)) (49) 1) (60)) (49) 2) (65)) (49) 3) (70)) (49) 4) (75)) (49) 5) (80)) (49) 6) (85)) (49) 7) (90)) (49) 8) := hF28.st (by omega)
  have hF30 : Fr (49 + 47) (σ) (st2 (tX4 (st2 (tX4 (st2 (tX4 (st2 (tX4 (st2 (tX4 (st2 (tX4 (st2 (tX4 (st2 (tX4 (st2 (tX4 (st2 (τ) (48) 0) (50)) (49) 0) (55)) (49) 1) (60)) (49) 2) (65)) (49) 3) (70)) (49) 4) (75)) (49) 5) (80)) (49) 6) (85)) (49) 7) (90)) (49) 8) := hF29.mono (by omega)
  have hF31 : Fr (49 + 51) (σ) (tX4 (st2 (tX4 (st2 (tX4 (st2 (tX4 (st2 (tX4 (st2 (tX4 (st2 (tX4 (st2 (tX4 (st2 (tX4 (st2 (tX4 (st2 (τ) (48) 0) (50)) (49) 0) (55)) (49) 1) (60)) (49) 2) (65)) (49) 3) (70)) (49) 4) (75)) (49) 5) (80)) (49) 6) (85)) (49) 7) (90)) (49) 8) (95)) := frX4 hF30
  have hF32 : Fr (49 + 51) (σ) (st2 (tX4 (st2 (tX4 (st2 (tX4 (st2 (tX4 (st2 (tX4 (st2 (tX4 (st2 (tX4 (st2 (tX4 (st2 (tX4 (st2 (tX4 (st2 (τ) (48) 0) (50)) (49) 0) (55)) (49) 1) (60)) (49) 2) (65)) (49) 3) (70)) (49) 4) (75)) (49) 5) (80)) (49) 6) (85)) (49) 7) (90)) (49) 8) (95)) (49) 9) := hF31.st (by omega)
  have hF33 : Fr (49 + 52) (σ) (st2 (tX4 (st2 (tX4 (st2 (tX4 (st2 (tX4 (st2 (tX4 (st2 (tX4 (st2 (tX4 (st2 (tX4 (st2 (tX4 (st2 (tX4 (st2 (τ) (48) 0) (50)) (49) 0) (55)) (49) 1) (60)) (49) 2) (65)) (49) 3) (70)) (49) 4) (75)) (49) 5) (80)) (49) 6) (85)) (49) 7) (90)) (49) 8) (95)) (49) 9) := hF32.mono (by omega)
  have hF34 : Fr (49 + 56) (σ) (tX4 (st2 (tX4 (st2 (tX4 (st2 (tX4 (st2 (tX4 (st2 (tX4 (st2 (tX4 (st2 (tX4 (st2 (tX4 (st2 (tX4 (st2 (tX4 (st2 (τ) (48) 0) (50)) (49) 0) (55)) (49) 1) (60)) (49) 2) (65)) (49) 3) (70)) (49) 4) (75)) (49) 5) (80)) (49) 6) (85)) (49) 7) (90)) (49) 8) (95)) (49) 9) (100)) := frX4 hF33
  have hF35 : Fr (49 + 56) (σ) (st2 (tX4 (st2 (tX4 (st2 (tX4 (st2 (tX4 (st2 (tX4 (st2 (tX4 (st2 (tX4 (st2 (tX4 (st2 (tX4 (st2 (tX4 (st2 (tX4 (st2 (τ) (48) 0) (50)) (49) 0) (55)) (49) 1) (60)) (49) 2) (65)) (49) 3) (70)) (49) 4) (75)) (49) 5) (80)) (49) 6) (85)) (49) 7) (90)) (49) 8) (95)) (49) 9) (100)) (49) 10) := hF34.st (by omega)
  have hF36 : Fr (49 + 57) (σ) (st2 (tX4 (st2 (tX4 (st2 (tX4 (st2 (tX4 (st2 (tX4 (st2 (tX4 (st2 (tX4 (st2 (tX4 (st2 (tX4 (st2 (tX4 (st2 (tX4 (st2 (τ) (48) 0) (50)) (49) 0) (55)) (49) 1) (60)) (49) 2) (65)) (49) 3) (70)) (49) 4) (75)) (49) 5) (80)) (49) 6) (85)) (49) 7) (90)) (49) 8) (95)) (49) 9) (100)) (49) 10) := hF35.mono (by omega)
  have hF37 : Fr (49 + 61) (σ) (tX4 (st2 (tX4 (st2 (tX4 (st2 (tX4 (st2 (tX4 (st2 (tX4 (st2 (tX4 (st2 (tX4 (st2 (tX4 (st2 (tX4 (st2 (tX4 (st2 (tX4 (st2 (τ) (48) 0) (50)) (49) 0) (55)) (49) 1) (60)) (49) 2) (65)) (49) 3) (70)) (49) 4) (75)) (49) 5) (80)) (49) 6) (85)) (49) 7) (90)) (49) 8) (95)) (49) 9) (100)) (49) 10) (105)) := frX4 hF36
  have hF38 : Fr (49 + 61) (σ) (st2 (tX4 (st2 (tX4 (st2 (tX4 (st2 (tX4 (st2 (tX4 (st2 (tX4 (st2 (tX4 (st2 (tX4 (st2 (tX4 (st2 (tX4 (st2 (tX4 (st2 (tX4 (st2 (τ) (48) 0) (50)) (49) 0) (55)) (49) 1) (60)) (49) 2) (65)) (49) 3) (70)) (49) 4) (75)) (49) 5) (80)) (49) 6) (85)) (49) 7) (90)) (49) 8) (95)) (49) 9) (100)) (49) 10) (105)) (49) 11) := hF37.st (by omega)
  have hF39 : Fr (49 + 62) (σ) (st2 (tX4 (st2 (tX4 (st2 (tX4 (st2 (tX4 (st2 (tX4 (st2 (tX4 (st2 (tX4 (st2 (tX4 (st2 (tX4 (st2 (tX4 (st2 (tX4 (st2 (tX4 (st2 (τ) (48) 0) (50)) (49) 0) (55)) (49) 1) (60)) (49) 2) (65)) (49) 3) (70)) (49) 4) (75)) (49) 5) (80)) (49) 6) (85)) (49) 7) (90)) (49) 8) (95)) (49) 9) (100)) (49) 10) (105)) (49) 11) := hF38.mono (by omega)
  have hF40 : Fr (49 + 66) (σ) (tX4 (st2 (tX4 (st2 (tX4 (st2 (tX4 (st2 (tX4 (st2 (tX4 (st2 (tX4 (st2 (tX4 (st2 (tX4 (st2 (tX4 (st2 (tX4 (st2 (tX4 (st2 (tX4 (st2 (τ) (48) 0) (50)) (49) 0) (55)) (49) 1) (60)) (49) 2) (65)) (49) 3) (70)) (49) 4) (75)) (49) 5) (80)) (49) 6) (85)) (49) 7) (90)) (49) 8) (95)) (49) 9) (100)) (49) 10) (105)) (49) 11) (110)) := frX4 hF39
  have hF41 : Fr (49 + 66) (σ) (st2 (tX4 (st2 (tX4 (st2 (tX4 (st2 (tX4 (st2 (tX4 (st2 (tX4 (st2 (tX4 (st2 (tX4 (st2 (tX4 (st2 (tX4 (st2 (tX4 (st2 (tX4 (st2 (tX4 (st2 (τ) (48) 0) (50)) (49) 0) (55)) (49) 1) (60)) (49) 2) (65)) (49) 3) (70)) (49) 4) (75)) (49) 5) (80)) (49) 6) (85)) (49) 7) (90)) (49) 8) (95)) (49) 9) (100)) (49) 10) (105)) (49) 11) (110)) (49) 12) := hF40.st (by omega)
  have hF42 : Fr (49 + 67) (σ) (st2 (tX4 (st2 (tX4 (st2 (tX4 (st2 (tX4 (st2 (tX4 (st2 (tX4 (st2 (tX4 (st2 (tX4 (st2 (tX4 (st2 (tX4 (st2 (tX4 (st2 (tX4 (st2 (tX4 (st2 (τ) (48) 0) (50)) (49) 0) (55)) (49) 1) (60)) (49) 2) (65)) (49) 3) (70)) (49) 4) (75)) (49) 5) (80)) (49) 6) (85)) (49) 7) (90)) (49) 8) (95)) (49) 9) (100)) (49) 10) (105)) (49) 11) (110)) (49) 12) := hF41.mono (by omega)
  have hF43 : Fr (49 + 71) (σ) (tX4 (st2 (tX4 (st2 (tX4 (st2 (tX4 (st2 (tX4 (st2 (tX4 (st2 (tX4 (st2 (tX4 (st2 (tX4 (st2 (tX4 (st2 (tX4 (st2 (tX4 (st2 (tX4 (st2 (tX4 (st2 (τ) (48) 0) (50)) (49) 0) (55)) (49) 1) (60)) (49) 2) (65)) (49) 3) (70)) (49) 4) (75)) (49) 5) (80)) (49) 6) (85)) (49) 7) (90)) (49) 8) (95)) (49) 9) (100)) (49) 10) (105)) (49) 11) (110)) (49) 12) (115)) := frX4 hF42
  have hF44 : Fr (49 + 71) (σ) (st2 (tX4 (st2 (tX4 (st2 (tX4 (st2 (tX4 (st2 (tX4 (st2 (tX4 (st2 (tX4 (st2 (tX4 (st2 (tX4 (st2 (tX4 (st2 (tX4 (st2 (tX4 (st2 (tX4 (st2 (tX4 (st2 (τ) (48) 0) (50)) (49) 0) (55)) (49) 1) (60)) (49) 2) (65)) (49) 3) (70)) (49) 4) (75)) (49) 5) (80)) (49) 6) (85)) (49) 7) (90)) (49) 8) (95)) (49) 9) (100)) (49) 10) (105)) (49) 11) (110)) (49) 12) (115)) (49) 13) := hF43.st (by omega)
  have hF45 : Fr (49 + 72) (σ) (st2 (tX4 (st2 (tX4 (st2 (tX4 (st2 (tX4 (st2 (tX4 (st2 (tX4 (st2 (tX4 (st2 (tX4 (st2 (tX4 (st2 (tX4 (st2 (tX4 (st2 (tX4 (st2 (tX4 (st2 (tX4 (st2 (τ) (48) 0) (50)) (49) 0) (55)) (49) 1) (60)) (49) 2) (65)) (49) 3) (70)) (49) 4) (75)) (49) 5) (80)) (49) 6) (85)) (49) 7) (90)) (49) 8) (95)) (49) 9) (100)) (49) 10) (105)) (49) 11) (110)) (49) 12) (115)) (49) 13) := hF44.mono (by omega)
  have hF46 : Fr (49 + 76) (σ) (tX4 (st2 (tX4 (st2 (tX4 (st2 (tX4 (st2 (tX4 (st2 (tX4 (st2 (tX4 (st2 (tX4 (st2 (tX4 (st2 (tX4 (st2 (tX4 (st2 (tX4 (st2 (tX4 (st2 (tX4 (st2 (tX4 (st2 (τ) (48) 0) (50)) (49) 0) (55)) (49) 1) (60)) (49) 2) (65)) (49) 3) (70)) (49) 4) (75)) (49) 5) (80)) (49) 6) (85)) (49) 7) (90)) (49) 8) (95)) (49) 9) (100)) (49) 10) (105)) (49) 11) (110)) (49) 12) (115)) (49) 13) (120)) := frX4 hF45
  have hF47 : Fr (49 + 76) (σ) (st2 (tX4 (st2 (tX4 (st2 (tX4 (st2 (tX4 (st2 (tX4 (st2 (tX4 (st2 (tX4 (st2 (tX4 (st2 (tX4 (st2 (tX4 (st2 (tX4 (st2 (tX4 (st2 (tX4 (st2 (tX4 (st2 (tX4 (st2 (τ) (48) 0) (50)) (49) 0) (55)) (49) 1) (60)) (49) 2) (65)) (49) 3) (70)) (49) 4) (75)) (49) 5) (80)) (49) 6) (85)) (49) 7) (90)) (49) 8) (95)) (49) 9) (100)) (49) 10) (105)) (49) 11) (110)) (49) 12) (115)) (49) 13) (120)) (49) 14) := hF46.st (by omega)
  have hF48 : Fr (49 + 77) (σ) (st2 (tX4 (st2 (tX4 (st2 (tX4 (st2 (tX4 (st2 (tX4 (st2 (tX4 (st2 (tX4 (st2 (tX4 (st2 (tX4 (st2 (tX4 (st2 (tX4 (st2 (tX4 (st2 (tX4 (st2 (tX4 (st2 (tX4 (st2 (τ) (48) 0) (50)) (49) 0) (55)) (49) 1) (60)) (49) 2) (65)) (49) 3) (70)) (49) 4) (75)) (49) 5) (80)) (49) 6) (85)) (49) 7) (90)) (49) 8) (95)) (49) 9) (100)) (49) 10) (105)) (49) 11) (110)) (49) 12) (115)) (49) 13) (120)) (49) 14) := hF47.mono (by omega)
  have hF49 : Fr (49 + 81) (σ) (tX4 (st2 (tX4 (st2 (tX4 (st2 (tX4 (st2 (tX4 (st2 (tX4 (st2 (tX4 (st2 (tX4 (st2 (tX4 (st2 (tX4 (st2 (tX4 (st2 (tX4 (st2 (tX4 (st2 (tX4 (st2 (tX4 (st2 (tX4 (st2 (τ) (48) 0) (50)) (49) 0) (55)) (49) 1) (60)) (49) 2) (65)) (49) 3) (70)) (49) 4) (75)) (49) 5) (80)) (49) 6) (85)) (49) 7) (90)) (49) 8) (95)) (49) 9) (100)) (49) 10) (105)) (49) 11) (110)) (49) 12) (115)) (49) 13) (120)) (49) 14) (125)) := frX4 hF48
  have hF50 : Fr (49 + 81) (σ) (st2 (tX4 (st2 (tX4 (st2 (tX4 (st2 (tX4 (st2 (tX4 (st2 (tX4 (st2 (tX4 (st2 (tX4 (st2 (tX4 (st2 (tX4 (st2 (tX4 (st2 (tX4 (st2 (tX4 (st2 (tX4 (st2 (tX4 (st2 (tX4 (st2 (τ) (48) 0) (50)) (49) 0) (55)) (49) 1) (60)) (49) 2) (65)) (49) 3) (70)) (49) 4) (75)) (49) 5) (80)) (49) 6) (85)) (49) 7) (90)) (49) 8) (95)) (49) 9) (100)) (49) 10) (105)) (49) 11) (110)) (49) 12) (115)) (49) 13) (120)) (49) 14) (125)) (49) 15) := hF49.st (by omega)
  exact hF50
set_option maxHeartbeats 4000000 in
set_option maxRecDepth 100000 in
theorem IX2 {l : Launch} {K : KK} {σ : MM} {τ : TT} (hF : Fr (49) σ τ) : CI l K (49) 81 480 2 mX2_init [.ref (K.2.1 + 48), .ref (K.2.1 + 3)] σ τ (σ) (tX2 τ) := by
  refine CI.of (by decide +kernel) rfl (Nat.le_of_ble_eq_true rfl) ?_
  show RN l K (49) 2 81 480 mX2_init _ 0 [(0, .ref (K.2.1 + 48)), (1, .ref (K.2.1 + 3))] [] 0 0 σ τ
  refine rn_aload_n 0 dX2_init_0 rfl ?_
  refine rn_obj (mw (i := 268) (by decide +kernel)) (mw (i := 33) (by decide +kernel)) (mw (i := 34) (by decide +kernel)) (by decide) (by decide) dX2_init_1 ?_
  refine rn_aload_n 0 dX2_init_4 rfl ?_
  refine rn_bipush (nI 16) dX2_init_5 (by decide) ?_
  refine rn_newq (t := 4) (N := 16) (C := "LaundrySky$Sky") rfl (by decide) (mw (i := 269) (by decide +kernel)) (fun U h => h.1) (by decide +kernel) hF (by decide) (by decide) (by decide) (by decide) (by decide) dX2_init_7 ?_
  have hF1 : Fr (49 + 1) (σ) (τ) := hF.mono (by omega)
  refine rn_putF fi_X2_11 ffX2_0 rfl (by decide +kernel) (by decide) (by omega) (by decide) (by rw [(show rf 48 0 = 49 by decide +kernel)]) dX2_init_10 ?_
  have hF2 : Fr (49 + 1) (σ) (st2 (τ) (48) 0) := hF1.st (by omega)
  refine rn_iconst (nI 0) dX2_init_13 (by decide) ?_
  refine rn_istore_n [(2, .int (nI 0)), (0, .ref (K.2.1 + 48)), (1, .ref (K.2.1 + 3))] dX2_init_14 (by decide) rfl ?_
  refine rn_iload_n 0 dX2_init_15 rfl ?_
  refine rn_aload_n 1 dX2_init_16 rfl ?_
  refine rn_getR fi_X2_11 (by decide +kernel) (by decide) (by omega) (by decide) (by rfl) dX2_init_17 ?_
  rw [(show rf 48 0 = 49 by decide +kernel)]
  refine rn_alen (t := 4) (N := 16) (v := nI 16) rfl (by decide) (by decide +kernel) (by omega) (by decide) dX2_init_20 ?_
  refine rn_ge_f 44 (by decide) dX2_init_21 (by decide) ?_
  refine rn_aload_n 1 dX2_init_24 rfl ?_
  refine rn_getR fi_X2_11 (by decide +kernel) (by decide) (by omega) (by decide) (by rfl) dX2_init_25 ?_
  rw [(show rf 48 0 = 49 by decide +kernel)]
  refine rn_iload_n 0 dX2_init_28 rfl ?_
  refine rn_new (ci := 4) (N := 7) kcX4 (by decide) (by decide) (mw (i := 269) (by decide +kernel)) (by decide +kernel) hF2 (by decide) (by decide) dX2_init_29 ?_
  have hF3 : Fr (49 + 2) (σ) (st2 (τ) (48) 0) := hF2.mono (by omega)
  refine rn_dup dX2_init_32 rfl ?_
  refine rn_aload_n 2 dX2_init_33 rfl ?_
  refine rn_call (b := 50) (mc := 4) (ms := 22) (d' := 1) [.ref (K.2.1 + 3)] (IX4 (a := 50) (p := 3) (show okX4 50 3 by decide +kernel) hF3) ccX4_init imX4_init rfl (mw (i := 271) (by decide +kernel)) (by decide) rfl rfl (Nat.le_of_ble_eq_true rfl) dX2_init_34 (by decide) (by decide) ?_
  have hF4 : Fr (49 + 6) (σ) (tX4 (st2 (τ) (48) 0) (50)) := frX4 hF3
  refine rn_aast (t := 4) (N := 16) (a := 49) (v := 50) (ci := 4) (i := 0) rfl (by decide) (by decide +kernel) (by decide +kernel) (by decide) rfl (by omega) (by omega) (show rf 49 0 = 50 by decide +kernel) (by decide) (by decide) dX2_init_37 ?_
  have hF5 : Fr (49 + 6) (σ) (st2 (tX4 (st2 (τ) (48) 0) (50)) (49) 0) := hF4.st (by omega)
  refine rn_iinc (x2 := nI 1) [(2, .int (nI 1)), (0, .ref (K.2.1 + 48)), (1, .ref (K.2.1 + 3))] 0 dX2_init_38 rfl (by decide) (by decide) rfl ?_
  refine rn_goto 15 dX2_init_41 (by decide) ?_
  refine rn_iload_n 0 dX2_init_15 rfl ?_
  refine rn_aload_n 1 dX2_init_16 rfl ?_
  refine rn_getR fi_X2_11 (by decide +kernel) (by decide) (by omega) (by decide) (by rfl) dX2_init_17 ?_
  rw [(show rf 48 0 = 49 by decide +kernel)]
  refine rn_alen (t := 4) (N := 16) (v := nI 16) rfl (by decide) (by decide +kernel) (by omega) (by decide) dX2_init_20 ?_
  refine rn_ge_f 44 (by decide) dX2_init_21 (by decide) ?_
  refine rn_aload_n 1 dX2_init_24 rfl ?_
  refine rn_getR fi_X2_11 (by decide +kernel) (by decide) (by omega) (by decide) (by rfl) dX2_init_25 ?_
  rw [(show rf 48 0 = 49 by decide +kernel)]
  refine rn_iload_n 0 dX2_init_28 rfl ?_
  refine rn_new (ci := 4) (N := 7) kcX4 (by decide) (by decide) (mw (i := 269) (by decide +kernel)) (by decide +kernel) hF5 (by decide) (by decide) dX2_init_29 ?_
  have hF6 : Fr (49 + 7) (σ) (st2 (tX4 (st2 (τ) (48) 0) (50)) (49) 0) := hF5.mono (by omega)
  refine rn_dup dX2_init_32 rfl ?_
  refine rn_aload_n 2 dX2_init_33 rfl ?_
  refine rn_call (b := 55) (mc := 4) (ms := 22) (d' := 1) [.ref (K.2.1 + 3)] (IX4 (a := 55) (p := 3) (show okX4 55 3 by decide +kernel) hF6) ccX4_init imX4_init rfl (mw (i := 271) (by decide +kernel)) (by decide) rfl rfl (Nat.le_of_ble_eq_true rfl) dX2_init_34 (by decide) (by decide) ?_
  have hF7 : Fr (49 + 11) (σ) (tX4 (st2 (tX4 (st2 (τ) (48) 0) (50)) (49) 0) (55)) := frX4 hF6
  refine rn_aast (t := 4) (N := 16) (a := 49) (v := 55) (ci := 4) (i := 1) rfl (by decide) (by decide +kernel) (by decide +kernel) (by decide) rfl (by omega) (by omega) (show rf 49 1 = 55 by decide +kernel) (by decide) (by decide) dX2_init_37 ?_
  have hF8 : Fr (49 + 11) (σ) (st2 (tX4 (st2 (tX4 (st2 (τ) (48) 0) (50)) (49) 0) (55)) (49) 1) := hF7.st (by omega)
  refine rn_iinc (x2 := nI 2) [(2, .int (nI 2)), (0, .ref (K.2.1 + 48)), (1, .ref (K.2.1 + 3))] 0 dX2_init_38 rfl (by decide) (by decide) rfl ?_
  refine rn_goto 15 dX2_init_41 (by decide) ?_
  refine rn_iload_n 0 dX2_init_15 rfl ?_
  refine rn_aload_n 1 dX2_init_16 rfl ?_
  refine rn_getR fi_X2_11 (by decide +kernel) (by decide) (by omega) (by decide) (by rfl) dX2_init_17 ?_
  rw [(show rf 48 0 = 49 by decide +kernel)]
  refine rn_alen (t := 4) (N := 16) (v := nI 16) rfl (by decide) (by decide +kernel) (by omega) (by decide) dX2_init_20 ?_
  refine rn_ge_f 44 (by decide) dX2_init_21 (by decide) ?_
  refine rn_aload_n 1 dX2_init_24 rfl ?_
  refine rn_getR fi_X2_11 (by decide +kernel) (by decide) (by omega) (by decide) (by rfl) dX2_init_25 ?_
  rw [(show rf 48 0 = 49 by decide +kernel)]
  refine rn_iload_n 0 dX2_init_28 rfl ?_
  refine rn_new (ci := 4) (N := 7) kcX4 (by decide) (by decide) (mw (i := 269) (by decide +kernel)) (by decide +kernel) hF8 (by decide) (by decide) dX2_init_29 ?_
  have hF9 : Fr (49 + 12) (σ) (st2 (tX4 (st2 (tX4 (st2 (τ) (48) 0) (50)) (49) 0) (55)) (49) 1) := hF8.mono (by omega)
  refine rn_dup dX2_init_32 rfl ?_
  refine rn_aload_n 2 dX2_init_33 rfl ?_
  refine rn_call (b := 60) (mc := 4) (ms := 22) (d' := 1) [.ref (K.2.1 + 3)] (IX4 (a := 60) (p := 3) (show okX4 60 3 by decide +kernel) hF9) ccX4_init imX4_init rfl (mw (i := 271) (by decide +kernel)) (by decide) rfl rfl (Nat.le_of_ble_eq_true rfl) dX2_init_34 (by decide) (by decide) ?_
  have hF10 : Fr (49 + 16) (σ) (tX4 (st2 (tX4 (st2 (tX4 (st2 (τ) (48) 0) (50)) (49) 0) (55)) (49) 1) (60)) := frX4 hF9
  refine rn_aast (t := 4) (N := 16) (a := 49) (v := 60) (ci := 4) (i := 2) rfl (by decide) (by decide +kernel) (by decide +kernel) (by decide) rfl (by omega) (by omega) (show rf 49 2 = 60 by decide +kernel) (by decide) (by decide) dX2_init_37 ?_
  have hF11 : Fr (49 + 16) (σ) (st2 (tX4 (st2 (tX4 (st2 (tX4 (st2 (τ) (48) 0) (50)) (49) 0) (55)) (49) 1) (60)) (49) 2) := hF10.st (by omega)
  refine rn_iinc (x2 := nI 3) [(2, .int (nI 3)), (0, .ref (K.2.1 + 48)), (1, .ref (K.2.1 + 3))] 0 dX2_init_38 rfl (by decide) (by decide) rfl ?_
  refine rn_goto 15 dX2_init_41 (by decide) ?_
  refine rn_iload_n 0 dX2_init_15 rfl ?_
  refine rn_aload_n 1 dX2_init_16 rfl ?_
  refine rn_getR fi_X2_11 (by decide +kernel) (by decide) (by omega) (by decide) (by rfl) dX2_init_17 ?_
  rw [(show rf 48 0 = 49 by decide +kernel)]
  refine rn_alen (t := 4) (N := 16) (v := nI 16) rfl (by decide) (by decide +kernel) (by omega) (by decide) dX2_init_20 ?_
  refine rn_ge_f 44 (by decide) dX2_init_21 (by decide) ?_
  refine rn_aload_n 1 dX2_init_24 rfl ?_
  refine rn_getR fi_X2_11 (by decide +kernel) (by decide) (by omega) (by decide) (by rfl) dX2_init_25 ?_
  rw [(show rf 48 0 = 49 by decide +kernel)]
  refine rn_iload_n 0 dX2_init_28 rfl ?_
  refine rn_new (ci := 4) (N := 7) kcX4 (by decide) (by decide) (mw (i := 269) (by decide +kernel)) (by decide +kernel) hF11 (by decide) (by decide) dX2_init_29 ?_
  have hF12 : Fr (49 + 17) (σ) (st2 (tX4 (st2 (tX4 (st2 (tX4 (st2 (τ) (48) 0) (50)) (49) 0) (55)) (49) 1) (60)) (49) 2) := hF11.mono (by omega)
  refine rn_dup dX2_init_32 rfl ?_
  refine rn_aload_n 2 dX2_init_33 rfl ?_
  refine rn_call (b := 65) (mc := 4) (ms := 22) (d' := 1) [.ref (K.2.1 + 3)] (IX4 (a := 65) (p := 3) (show okX4 65 3 by decide +kernel) hF12) ccX4_init imX4_init rfl (mw (i := 271) (by decide +kernel)) (by decide) rfl rfl (Nat.le_of_ble_eq_true rfl) dX2_init_34 (by decide) (by decide) ?_
  have hF13 : Fr (49 + 21) (σ) (tX4 (st2 (tX4 (st2 (tX4 (st2 (tX4 (st2 (τ) (48) 0) (50)) (49) 0) (55)) (49) 1) (60)) (49) 2) (65)) := frX4 hF12
  refine rn_aast (t := 4) (N := 16) (a := 49) (v := 65) (ci := 4) (i := 3) rfl (by decide) (by decide +kernel) (by decide +kernel) (by decide) rfl (by omega) (by omega) (show rf 49 3 = 65 by decide +kernel) (by decide) (by decide) dX2_init_37 ?_
  have hF14 : Fr (49 + 21) (σ) (st2 (tX4 (st2 (tX4 (st2 (tX4 (st2 (tX4 (st2 (τ) (48) 0) (50)) (49) 0) (55)) (49) 1) (60)) (49) 2) (65)) (49) 3) := hF13.st (by omega)
  refine rn_iinc (x2 := nI 4) [(2, .int (nI 4)), (0, .ref (K.2.1 + 48)), (1, .ref (K.2.1 + 3))] 0 dX2_init_38 rfl (by decide) (by decide) rfl ?_
  refine rn_goto 15 dX2_init_41 (by decide) ?_
  refine rn_iload_n 0 dX2_init_15 rfl ?_
  refine rn_aload_n 1 dX2_init_16 rfl ?_
  refine rn_getR fi_X2_11 (by decide +kernel) (by decide) (by omega) (by decide) (by rfl) dX2_init_17 ?_
  rw [(show rf 48 0 = 49 by decide +kernel)]
  refine rn_alen (t := 4) (N := 16) (v := nI 16) rfl (by decide) (by decide +kernel) (by omega) (by decide) dX2_init_20 ?_
  refine rn_ge_f 44 (by decide) dX2_init_21 (by decide) ?_
  refine rn_aload_n 1 dX2_init_24 rfl ?_
  refine rn_getR fi_X2_11 (by decide +kernel) (by decide) (by omega) (by decide) (by rfl) dX2_init_25 ?_
  rw [(show rf 48 0 = 49 by decide +kernel)]
  refine rn_iload_n 0 dX2_init_28 rfl ?_
  refine rn_new (ci := 4) (N := 7) kcX4 (by decide) (by decide) (mw (i := 269) (by decide +kernel)) (by decide +kernel) hF14 (by decide) (by decide) dX2_init_29 ?_
  have hF15 : Fr (49 + 22) (σ) (st2 (tX4 (st2 (tX4 (st2 (tX4 (st2 (tX4 (st2 (τ) (48) 0) (50)) (49) 0) (55)) (49) 1) (60)) (49) 2) (65)) (49) 3) := hF14.mono (by omega)
  refine rn_dup dX2_init_32 rfl ?_
  refine rn_aload_n 2 dX2_init_33 rfl ?_
  refine rn_call (b := 70) (mc := 4) (ms := 22) (d' := 1) [.ref (K.2.1 + 3)] (IX4 (a := 70) (p := 3) (show okX4 70 3 by decide +kernel) hF15) ccX4_init imX4_init rfl (mw (i := 271) (by decide +kernel)) (by decide) rfl rfl (Nat.le_of_ble_eq_true rfl) dX2_init_34 (by decide) (by decide) ?_
  have hF16 : Fr (49 + 26) (σ) (tX4 (st2 (tX4 (st2 (tX4 (st2 (tX4 (st2 (tX4 (st2 (τ) (48) 0) (50)) (49) 0) (55)) (49) 1) (60)) (49) 2) (65)) (49) 3) (70)) := frX4 hF15
  refine rn_aast (t := 4) (N := 16) (a := 49) (v := 70) (ci := 4) (i := 4) rfl (by decide) (by decide +kernel) (by decide +kernel) (by decide) rfl (by omega) (by omega) (show rf 49 4 = 70 by decide +kernel) (by decide) (by decide) dX2_init_37 ?_
  have hF17 : Fr (49 + 26) (σ) (st2 (tX4 (st2 (tX4 (st2 (tX4 (st2 (tX4 (st2 (tX4 (st2 (τ) (48) 0) (50)) (49) 0) (55)) (49) 1) (60)) (49) 2) (65)) (49) 3) (70)) (49) 4) := hF16.st (by omega)
  refine rn_iinc (x2 := nI 5) [(2, .int (nI 5)), (0, .ref (K.2.1 + 48)), (1, .ref (K.2.1 + 3))] 0 dX2_init_38 rfl (by decide) (by decide) rfl ?_
  refine rn_goto 15 dX2_init_41 (by decide) ?_
  refine rn_iload_n 0 dX2_init_15 rfl ?_
  refine rn_aload_n 1 dX2_init_16 rfl ?_
  refine rn_getR fi_X2_11 (by decide +kernel) (by decide) (by omega) (by decide) (by rfl) dX2_init_17 ?_
  rw [(show rf 48 0 = 49 by decide +kernel)]
  refine rn_alen (t := 4) (N := 16) (v := nI 16) rfl (by decide) (by decide +kernel) (by omega) (by decide) dX2_init_20 ?_
  refine rn_ge_f 44 (by decide) dX2_init_21 (by decide) ?_
  refine rn_aload_n 1 dX2_init_24 rfl ?_
  refine rn_getR fi_X2_11 (by decide +kernel) (by decide) (by omega) (by decide) (by rfl) dX2_init_25 ?_
  rw [(show rf 48 0 = 49 by decide +kernel)]
  refine rn_iload_n 0 dX2_init_28 rfl ?_
  refine rn_new (ci := 4) (N := 7) kcX4 (by decide) (by decide) (mw (i := 269) (by decide +kernel)) (by decide +kernel) hF17 (by decide) (by decide) dX2_init_29 ?_
  have hF18 : Fr (49 + 27) (σ) (st2 (tX4 (st2 (tX4 (st2 (tX4 (st2 (tX4 (st2 (tX4 (st2 (τ) (48) 0) (50)) (49) 0) (55)) (49) 1) (60)) (49) 2) (65)) (49) 3) (70)) (49) 4) := hF17.mono (by omega)
  refine rn_dup dX2_init_32 rfl ?_
  refine rn_aload_n 2 dX2_init_33 rfl ?_
  refine rn_call (b := 75) (mc := 4) (ms := 22) (d' := 1) [.ref (K.2.1 + 3)] (IX4 (a := 75) (p := 3) (show okX4 75 3 by decide +kernel) hF18) ccX4_init imX4_init rfl (mw (i := 271) (by decide +kernel)) (by decide) rfl rfl (Nat.le_of_ble_eq_true rfl) dX2_init_34 (by decide) (by decide) ?_
  have hF19 : Fr (49 + 31) (σ) (tX4 (st2 (tX4 (st2 (tX4 (st2 (tX4 (st2 (tX4 (st2 (tX4 (st2 (τ) (48) 0) (50)) (49) 0) (55)) (49) 1) (60)) (49) 2) (65)) (49) 3) (70)) (49) 4) (75)) := frX4 hF18
  refine rn_aast (t := 4) (N := 16) (a := 49) (v := 75) (ci := 4) (i := 5) rfl (by decide) (by decide +kernel) (by decide +kernel) (by decide) rfl (by omega) (by omega) (show rf 49 5 = 75 by decide +kernel) (by decide) (by decide) dX2_init_37 ?_
  have hF20 : Fr (49 + 31) (σ) (st2 (tX4 (st2 (tX4 (st2 (tX4 (st2 (tX4 (st2 (tX4 (st2 (tX4 (st2 (τ) (48) 0) (50)) (49) 0) (55)) (49) 1) (60)) (49) 2) (65)) (49) 3) (70)) (49) 4) (75)) (49) 5) := hF19.st (by omega)
  refine rn_iinc (x2 := nI 6) [(2, .int (nI 6)), (0, .ref (K.2.1 + 48)), (1, .ref (K.2.1 + 3))] 0 dX2_init_38 rfl (by decide) (by decide) rfl ?_
  refine rn_goto 15 dX2_init_41 (by decide) ?_
  refine rn_iload_n 0 dX2_init_15 rfl ?_
  refine rn_aload_n 1 dX2_init_16 rfl ?_
  refine rn_getR fi_X2_11 (by decide +kernel) (by decide) (by omega) (by decide) (by rfl) dX2_init_17 ?_
  rw [(show rf 48 0 = 49 by decide +kernel)]
  refine rn_alen (t := 4) (N := 16) (v := nI 16) rfl (by decide) (by decide +kernel) (by omega) (by decide) dX2_init_20 ?_
  refine rn_ge_f 44 (by decide) dX2_init_21 (by decide) ?_
  refine rn_aload_n 1 dX2_init_24 rfl ?_
  refine rn_getR fi_X2_11 (by decide +kernel) (by decide) (by omega) (by decide) (by rfl) dX2_init_25 ?_
  rw [(show rf 48 0 = 49 by decide +kernel)]
  refine rn_iload_n 0 dX2_init_28 rfl ?_
  refine rn_new (ci := 4) (N := 7) kcX4 (by decide) (by decide) (mw (i := 269) (by decide +kernel)) (by decide +kernel) hF20 (by decide) (by decide) dX2_init_29 ?_
  have hF21 : Fr (49 + 32) (σ) (st2 (tX4 (st2 (tX4 (st2 (tX4 (st2 (tX4 (st2 (tX4 (st2 (tX4 (st2 (τ) (48) 0) (50)) (49) 0) (55)) (49) 1) (60)) (49) 2) (65)) (49) 3) (70)) (49) 4) (75)) (49) 5) := hF20.mono (by omega)
  refine rn_dup dX2_init_32 rfl ?_
  refine rn_aload_n 2 dX2_init_33 rfl ?_
  refine rn_call (b := 80) (mc := 4) (ms := 22) (d' := 1) [.ref (K.2.1 + 3)] (IX4 (a := 80) (p := 3) (show okX4 80 3 by decide +kernel) hF21) ccX4_init imX4_init rfl (mw (i := 271) (by decide +kernel)) (by decide) rfl rfl (Nat.le_of_ble_eq_true rfl) dX2_init_34 (by decide) (by decide) ?_
  have hF22 : Fr (49 + 36) (σ) (tX4 (st2 (tX4 (st2 (tX4 (st2 (tX4 (st2 (tX4 (st2 (tX4 (st2 (tX4 (st2 (τ) (48) 0) (50)) (49) 0) (55)) (49) 1) (60)) (49) 2) (65)) (49) 3) (70)) (49) 4) (75)) (49) 5) (80)) := frX4 hF21
  refine rn_aast (t := 4) (N := 16) (a := 49) (v := 80) (ci := 4) (i := 6) rfl (by decide) (by decide +kernel) (by decide +kernel) (by decide) rfl (by omega) (by omega) (show rf 49 6 = 80 by decide +kernel) (by decide) (by decide) dX2_init_37 ?_
  have hF23 : Fr (49 + 36) (σ) (st2 (tX4 (st2 (tX4 (st2 (tX4 (st2 (tX4 (st2 (tX4 (st2 (tX4 (st2 (tX4 (st2 (τ) (48) 0) (50)) (49) 0) (55)) (49) 1) (60)) (49) 2) (65)) (49) 3) (70)) (49) 4) (75)) (49) 5) (80)) (49) 6) := hF22.st (by omega)
  refine rn_iinc (x2 := nI 7) [(2, .int (nI 7)), (0, .ref (K.2.1 + 48)), (1, .ref (K.2.1 + 3))] 0 dX2_init_38 rfl (by decide) (by decide) rfl ?_
  refine rn_goto 15 dX2_init_41 (by decide) ?_
  refine rn_iload_n 0 dX2_init_15 rfl ?_
  refine rn_aload_n 1 dX2_init_16 rfl ?_
  refine rn_getR fi_X2_11 (by decide +kernel) (by decide) (by omega) (by decide) (by rfl) dX2_init_17 ?_
  rw [(show rf 48 0 = 49 by decide +kernel)]
  refine rn_alen (t := 4) (N := 16) (v := nI 16) rfl (by decide) (by decide +kernel) (by omega) (by decide) dX2_init_20 ?_
  refine rn_ge_f 44 (by decide) dX2_init_21 (by decide) ?_
  refine rn_aload_n 1 dX2_init_24 rfl ?_
  refine rn_getR fi_X2_11 (by decide +kernel) (by decide) (by omega) (by decide) (by rfl) dX2_init_25 ?_
  rw [(show rf 48 0 = 49 by decide +kernel)]
  refine rn_iload_n 0 dX2_init_28 rfl ?_
  refine rn_new (ci := 4) (N := 7) kcX4 (by decide) (by decide) (mw (i := 269) (by decide +kernel)) (by decide +kernel) hF23 (by decide) (by decide) dX2_init_29 ?_
  have hF24 : Fr (49 + 37) (σ) (st2 (tX4 (st2 (tX4 (st2 (tX4 (st2 (tX4 (st2 (tX4 (st2 (tX4 (st2 (tX4 (st2 (τ) (48) 0) (50)) (49) 0) (55)) (49) 1) (60)) (49) 2) (65)) (49) 3) (70)) (49) 4) (75)) (49) 5) (80)) (49) 6) := hF23.mono (by omega)
  refine rn_dup dX2_init_32 rfl ?_
  refine rn_aload_n 2 dX2_init_33 rfl ?_
  refine rn_call (b := 85) (mc := 4) (ms := 22) (d' := 1) [.ref (K.2.1 + 3)] (IX4 (a := 85) (p := 3) (show okX4 85 3 by decide +kernel) hF24) ccX4_init imX4_init rfl (mw (i := 271) (by decide +kernel)) (by decide) rfl rfl (Nat.le_of_ble_eq_true rfl) dX2_init_34 (by decide) (by decide) ?_
  have hF25 : Fr (49 + 41) (σ) (tX4 (st2 (tX4 (st2 (tX4 (st2 (tX4 (st2 (tX4 (st2 (tX4 (st2 (tX4 (st2 (tX4 (st2 (τ) (48) 0) (50)) (49) 0) (55)) (49) 1) (60)) (49) 2) (65)) (49) 3) (70)) (49) 4) (75)) (49) 5) (80)) (49) 6) (85)) := frX4 hF24
  refine rn_aast (t := 4) (N := 16) (a := 49) (v := 85) (ci := 4) (i := 7) rfl (by decide) (by decide +kernel) (by decide +kernel) (by decide) rfl (by omega) (by omega) (show rf 49 7 = 85 by decide +kernel) (by decide) (by decide) dX2_init_37 ?_
  have hF26 : Fr (49 + 41) (σ) (st2 (tX4 (st2 (tX4 (st2 (tX4 (st2 (tX4 (st2 (tX4 (st2 (tX4 (st2 (tX4 (st2 (tX4 (st2 (τ) (48) 0) (50)) (49) 0) (55)) (49) 1) (60)) (49) 2) (65)) (49) 3) (70)) (49) 4) (75)) (49) 5) (80)) (49) 6) (85)) (49) 7) := hF25.st (by omega)
  refine rn_iinc (x2 := nI 8) [(2, .int (nI 8)), (0, .ref (K.2.1 + 48)), (1, .ref (K.2.1 + 3))] 0 dX2_init_38 rfl (by decide) (by decide) rfl ?_
  refine rn_goto 15 dX2_init_41 (by decide) ?_
  refine rn_iload_n 0 dX2_init_15 rfl ?_
  refine rn_aload_n 1 dX2_init_16 rfl ?_
  refine rn_getR fi_X2_11 (by decide +kernel) (by decide) (by omega) (by decide) (by rfl) dX2_init_17 ?_
  rw [(show rf 48 0 = 49 by decide +kernel)]
  refine rn_alen (t := 4) (N := 16) (v := nI 16) rfl (by decide) (by decide +kernel) (by omega) (by decide) dX2_init_20 ?_
  refine rn_ge_f 44 (by decide) dX2_init_21 (by decide) ?_
  refine rn_aload_n 1 dX2_init_24 rfl ?_
  refine rn_getR fi_X2_11 (by decide +kernel) (by decide) (by omega) (by decide) (by rfl) dX2_init_25 ?_
  rw [(show rf 48 0 = 49 by decide +kernel)]
  refine rn_iload_n 0 dX2_init_28 rfl ?_
  refine rn_new (ci := 4) (N := 7) kcX4 (by decide) (by decide) (mw (i := 269) (by decide +kernel)) (by decide +kernel) hF26 (by decide) (by decide) dX2_init_29 ?_
  have hF27 : Fr (49 + 42) (σ) (st2 (tX4 (st2 (tX4 (st2 (tX4 (st2 (tX4 (st2 (tX4 (st2 (tX4 (st2 (tX4 (st2 (tX4 (st2 (τ) (48) 0) (50)) (49) 0) (55)) (49) 1) (60)) (49) 2) (65)) (49) 3) (70)) (49) 4) (75)) (49) 5) (80)) (49) 6) (85)) (49) 7) := hF26.mono (by omega)
  refine rn_dup dX2_init_32 rfl ?_
  refine rn_aload_n 2 dX2_init_33 rfl ?_
  refine rn_call (b := 90) (mc := 4) (ms := 22) (d' := 1) [.ref (K.2.1 + 3)] (IX4 (a := 90) (p := 3) (show okX4 90 3 by decide +kernel) hF27) ccX4_init imX4_init rfl (mw (i := 271) (by decide +kernel)) (by decide) rfl rfl (Nat.le_of_ble_eq_true rfl) dX2_init_34 (by decide) (by decide) ?_
  have hF28 : Fr (49 + 46) (σ) (tX4 (st2 (tX4 (st2 (tX4 (st2 (tX4 (st2 (tX4 (st2 (tX4 (st2 (tX4 (st2 (tX4 (st2 (tX4 (st2 (τ) (48) 0) (50)) (49) 0) (55)) (49) 1) (60)) (49) 2) (65)) (49) 3) (70)) (49) 4) (75)) (49) 5) (80)) (49) 6) (85)) (49) 7) (90)) := frX4 hF27
  refine rn_aast (t := 4) (N := 16) (a := 49) (v := 90) (ci := 4) (i := 8) rfl (by decide) (by decide +kernel) (by decide +kernel) (by decide) rfl (by omega) (by omega) (show rf 49 8 = 90 by decide +kernel) (by decide) (by decide) dX2_init_37 ?_
  have hF29 : Fr (49 + 46) (σ) (st2 (tX4 (st2 (tX4 (st2 (tX4 (st2 (tX4 (st2 (tX4 (st2 (tX4 (st2 (tX4 (st2 (tX4 (st2 (tX4 (st2 (τ) (48) 0) (50)) (49) 0) (55)) (49) 1) (60)) (49) 2) (65)) (49) 3) (70)) (49) 4) (75)) (49) 5) (80)) (49) 6) (85)) (49) 7) (90)) (49) 8) := hF28.st (by omega)
  refine rn_iinc (x2 := nI 9) [(2, .int (nI 9)), (0, .ref (K.2.1 + 48)), (1, .ref (K.2.1 + 3))] 0 dX2_init_38 rfl (by decide) (by decide) rfl ?_
  refine rn_goto 15 dX2_init_41 (by decide) ?_
  refine rn_iload_n 0 dX2_init_15 rfl ?_
  refine rn_aload_n 1 dX2_init_16 rfl ?_
  refine rn_getR fi_X2_11 (by decide +kernel) (by decide) (by omega) (by decide) (by rfl) dX2_init_17 ?_
  rw [(show rf 48 0 = 49 by decide +kernel)]
  refine rn_alen (t := 4) (N := 16) (v := nI 16) rfl (by decide) (by decide +kernel) (by omega) (by decide) dX2_init_20 ?_
  refine rn_ge_f 44 (by decide) dX2_init_21 (by decide) ?_
  refine rn_aload_n 1 dX2_init_24 rfl ?_
  refine rn_getR fi_X2_11 (by decide +kernel) (by decide) (by omega) (by decide) (by rfl) dX2_init_25 ?_
  rw [(show rf 48 0 = 49 by decide +kernel)]
  refine rn_iload_n 0 dX2_init_28 rfl ?_
  refine rn_new (ci := 4) (N := 7) kcX4 (by decide) (by decide) (mw (i := 269) (by decide +kernel)) (by decide +kernel) hF29 (by decide) (by decide) dX2_init_29 ?_
  have hF30 : Fr (49 + 47) (σ) (st2 (tX4 (st2 (tX4 (st2 (tX4 (st2 (tX4 (st2 (tX4 (st2 (tX4 (st2 (tX4 (st2 (tX4 (st2 (tX4 (st2 (τ) (48) 0) (50)) (49) 0) (55)) (49) 1) (60)) (49) 2) (65)) (49) 3) (70)) (49) 4) (75)) (49) 5) (80)) (49) 6) (85)) (49) 7) (90)) (49) 8) := hF29.mono (by omega)
  refine rn_dup dX2_init_32 rfl ?_
  refine rn_aload_n 2 dX2_init_33 rfl ?_
  refine rn_call (b := 95) (mc := 4) (ms := 22) (d' := 1) [.ref (K.2.1 + 3)] (IX4 (a := 95) (p := 3) (show okX4 95 3 by decide +kernel) hF30) ccX4_init imX4_init rfl (mw (i := 271) (by decide +kernel)) (by decide) rfl rfl (Nat.le_of_ble_eq_true rfl) dX2_init_34 (by decide) (by decide) ?_
  have hF31 : Fr (49 + 51) (σ) (tX4 (st2 (tX4 (st2 (tX4 (st2 (tX4 (st2 (tX4 (st2 (tX4 (st2 (tX4 (st2 (tX4 (st2 (tX4 (st2 (tX4 (st2 (τ) (48) 0) (50)) (49) 0) (55)) (49) 1) (60)) (49) 2) (65)) (49) 3) (70)) (49) 4) (75)) (49) 5) (80)) (49) 6) (85)) (49) 7) (90)) (49) 8) (95)) := frX4 hF30
  refine rn_aast (t := 4) (N := 16) (a := 49) (v := 95) (ci := 4) (i := 9) rfl (by decide) (by decide +kernel) (by decide +kernel) (by decide) rfl (by omega) (by omega) (show rf 49 9 = 95 by decide +kernel) (by decide) (by decide) dX2_init_37 ?_
  have hF32 : Fr (49 + 51) (σ) (st2 (tX4 (st2 (tX4 (st2 (tX4 (st2 (tX4 (st2 (tX4 (st2 (tX4 (st2 (tX4 (st2 (tX4 (st2 (tX4 (st2 (tX4 (st2 (τ) (48) 0) (50)) (49) 0) (55)) (49) 1) (60)) (49) 2) (65)) (49) 3) (70)) (49) 4) (75)) (49) 5) (80)) (49) 6) (85)) (49) 7) (90)) (49) 8) (95)) (49) 9) := hF31.st (by omega)
  refine rn_iinc (x2 := nI 10) [(2, .int (nI 10)), (0, .ref (K.2.1 + 48)), (1, .ref (K.2.1 + 3))] 0 dX2_init_38 rfl (by decide) (by decide) rfl ?_
  refine rn_goto 15 dX2_init_41 (by decide) ?_
  refine rn_iload_n 0 dX2_init_15 rfl ?_
  refine rn_aload_n 1 dX2_init_16 rfl ?_
  refine rn_getR fi_X2_11 (by decide +kernel) (by decide) (by omega) (by decide) (by rfl) dX2_init_17 ?_
  rw [(show rf 48 0 = 49 by decide +kernel)]
  refine rn_alen (t := 4) (N := 16) (v := nI 16) rfl (by decide) (by decide +kernel) (by omega) (by decide) dX2_init_20 ?_
  refine rn_ge_f 44 (by decide) dX2_init_21 (by decide) ?_
  refine rn_aload_n 1 dX2_init_24 rfl ?_
  refine rn_getR fi_X2_11 (by decide +kernel) (by decide) (by omega) (by decide) (by rfl) dX2_init_25 ?_
  rw [(show rf 48 0 = 49 by decide +kernel)]
  refine rn_iload_n 0 dX2_init_28 rfl ?_
  refine rn_new (ci := 4) (N := 7) kcX4 (by decide) (by decide) (mw (i := 269) (by decide +kernel)) (by decide +kernel) hF32 (by decide) (by decide) dX2_init_29 ?_
  have hF33 : Fr (49 + 52) (σ) (st2 (tX4 (st2 (tX4 (st2 (tX4 (st2 (tX4 (st2 (tX4 (st2 (tX4 (st2 (tX4 (st2 (tX4 (st2 (tX4 (st2 (tX4 (st2 (τ) (48) 0) (50)) (49) 0) (55)) (49) 1) (60)) (49) 2) (65)) (49) 3) (70)) (49) 4) (75)) (49) 5) (80)) (49) 6) (85)) (49) 7) (90)) (49) 8) (95)) (49) 9) := hF32.mono (by omega)
  refine rn_dup dX2_init_32 rfl ?_
  refine rn_aload_n 2 dX2_init_33 rfl ?_
  refine rn_call (b := 100) (mc := 4) (ms := 22) (d' := 1) [.ref (K.2.1 + 3)] (IX4 (a := 100) (p := 3) (show okX4 100 3 by decide +kernel) hF33) ccX4_init imX4_init rfl (mw (i := 271) (by decide +kernel)) (by decide) rfl rfl (Nat.le_of_ble_eq_true rfl) dX2_init_34 (by decide) (by decide) ?_
  have hF34 : Fr (49 + 56) (σ) (tX4 (st2 (tX4 (st2 (tX4 (st2 (tX4 (st2 (tX4 (st2 (tX4 (st2 (tX4 (st2 (tX4 (st2 (tX4 (st2 (tX4 (st2 (tX4 (st2 (τ) (48) 0) (50)) (49) 0) (55)) (49) 1) (60)) (49) 2) (65)) (49) 3) (70)) (49) 4) (75)) (49) 5) (80)) (49) 6) (85)) (49) 7) (90)) (49) 8) (95)) (49) 9) (100)) := frX4 hF33
  refine rn_aast (t := 4) (N := 16) (a := 49) (v := 100) (ci := 4) (i := 10) rfl (by decide) (by decide +kernel) (by decide +kernel) (by decide) rfl (by omega) (by omega) (show rf 49 10 = 100 by decide +kernel) (by decide) (by decide) dX2_init_37 ?_
  have hF35 : Fr (49 + 56) (σ) (st2 (tX4 (st2 (tX4 (st2 (tX4 (st2 (tX4 (st2 (tX4 (st2 (tX4 (st2 (tX4 (st2 (tX4 (st2 (tX4 (st2 (tX4 (st2 (tX4 (st2 (τ) (48) 0) (50)) (49) 0) (55)) (49) 1) (60)) (49) 2) (65)) (49) 3) (70)) (49) 4) (75)) (49) 5) (80)) (49) 6) (85)) (49) 7) (90)) (49) 8) (95)) (49) 9) (100)) (49) 10) := hF34.st (by omega)
  refine rn_iinc (x2 := nI 11) [(2, .int (nI 11)), (0, .ref (K.2.1 + 48)), (1, .ref (K.2.1 + 3))] 0 dX2_init_38 rfl (by decide) (by decide) rfl ?_
  refine rn_goto 15 dX2_init_41 (by decide) ?_
  refine rn_iload_n 0 dX2_init_15 rfl ?_
  refine rn_aload_n 1 dX2_init_16 rfl ?_
  refine rn_getR fi_X2_11 (by decide +kernel) (by decide) (by omega) (by decide) (by rfl) dX2_init_17 ?_
  rw [(show rf 48 0 = 49 by decide +kernel)]
  refine rn_alen (t := 4) (N := 16) (v := nI 16) rfl (by decide) (by decide +kernel) (by omega) (by decide) dX2_init_20 ?_
  refine rn_ge_f 44 (by decide) dX2_init_21 (by decide) ?_
  refine rn_aload_n 1 dX2_init_24 rfl ?_
  refine rn_getR fi_X2_11 (by decide +kernel) (by decide) (by omega) (by decide) (by rfl) dX2_init_25 ?_
  rw [(show rf 48 0 = 49 by decide +kernel)]
  refine rn_iload_n 0 dX2_init_28 rfl ?_
  refine rn_new (ci := 4) (N := 7) kcX4 (by decide) (by decide) (mw (i := 269) (by decide +kernel)) (by decide +kernel) hF35 (by decide) (by decide) dX2_init_29 ?_
  have hF36 : Fr (49 + 57) (σ) (st2 (tX4 (st2 (tX4 (st2 (tX4 (st2 (tX4 (st2 (tX4 (st2 (tX4 (st2 (tX4 (st2 (tX4 (st2 (tX4 (st2 (tX4 (st2 (tX4 (st2 (τ) (48) 0) (50)) (49) 0) (55)) (49) 1) (60)) (49) 2) (65)) (49) 3) (70)) (49) 4) (75)) (49) 5) (80)) (49) 6) (85)) (49) 7) (90)) (49) 8) (95)) (49) 9) (100)) (49) 10) := hF35.mono (by omega)
  refine rn_dup dX2_init_32 rfl ?_
  refine rn_aload_n 2 dX2_init_33 rfl ?_
  refine rn_call (b := 105) (mc := 4) (ms := 22) (d' := 1) [.ref (K.2.1 + 3)] (IX4 (a := 105) (p := 3) (show okX4 105 3 by decide +kernel) hF36) ccX4_init imX4_init rfl (mw (i := 271) (by decide +kernel)) (by decide) rfl rfl (Nat.le_of_ble_eq_true rfl) dX2_init_34 (by decide) (by decide) ?_
  have hF37 : Fr (49 + 61) (σ) (tX4 (st2 (tX4 (st2 (tX4 (st2 (tX4 (st2 (tX4 (st2 (tX4 (st2 (tX4 (st2 (tX4 (st2 (tX4 (st2 (tX4 (st2 (tX4 (st2 (tX4 (st2 (τ) (48) 0) (50)) (49) 0) (55)) (49) 1) (60)) (49) 2) (65)) (49) 3) (70)) (49) 4) (75)) (49) 5) (80)) (49) 6) (85)) (49) 7) (90)) (49) 8) (95)) (49) 9) (100)) (49) 10) (105)) := frX4 hF36
  refine rn_aast (t := 4) (N := 16) (a := 49) (v := 105) (ci := 4) (i := 11) rfl (by decide) (by decide +kernel) (by decide +kernel) (by decide) rfl (by omega) (by omega) (show rf 49 11 = 105 by decide +kernel) (by decide) (by decide) dX2_init_37 ?_
  have hF38 : Fr (49 + 61) (σ) (st2 (tX4 (st2 (tX4 (st2 (tX4 (st2 (tX4 (st2 (tX4 (st2 (tX4 (st2 (tX4 (st2 (tX4 (st2 (tX4 (st2 (tX4 (st2 (tX4 (st2 (tX4 (st2 (τ) (48) 0) (50)) (49) 0) (55)) (49) 1) (60)) (49) 2) (65)) (49) 3) (70)) (49) 4) (75)) (49) 5) (80)) (49) 6) (85)) (49) 7) (90)) (49) 8) (95)) (49) 9) (100)) (49) 10) (105)) (49) 11) := hF37.st (by omega)
  refine rn_iinc (x2 := nI 12) [(2, .int (nI 12)), (0, .ref (K.2.1 + 48)), (1, .ref (K.2.1 + 3))] 0 dX2_init_38 rfl (by decide) (by decide) rfl ?_
  refine rn_goto 15 dX2_init_41 (by decide) ?_
  refine rn_iload_n 0 dX2_init_15 rfl ?_
  refine rn_aload_n 1 dX2_init_16 rfl ?_
  refine rn_getR fi_X2_11 (by decide +kernel) (by decide) (by omega) (by decide) (by rfl) dX2_init_17 ?_
  rw [(show rf 48 0 = 49 by decide +kernel)]
  refine rn_alen (t := 4) (N := 16) (v := nI 16) rfl (by decide) (by decide +kernel) (by omega) (by decide) dX2_init_20 ?_
  refine rn_ge_f 44 (by decide) dX2_init_21 (by decide) ?_
  refine rn_aload_n 1 dX2_init_24 rfl ?_
  refine rn_getR fi_X2_11 (by decide +kernel) (by decide) (by omega) (by decide) (by rfl) dX2_init_25 ?_
  rw [(show rf 48 0 = 49 by decide +kernel)]
  refine rn_iload_n 0 dX2_init_28 rfl ?_
  refine rn_new (ci := 4) (N := 7) kcX4 (by decide) (by decide) (mw (i := 269) (by decide +kernel)) (by decide +kernel) hF38 (by decide) (by decide) dX2_init_29 ?_
  have hF39 : Fr (49 + 62) (σ) (st2 (tX4 (st2 (tX4 (st2 (tX4 (st2 (tX4 (st2 (tX4 (st2 (tX4 (st2 (tX4 (st2 (tX4 (st2 (tX4 (st2 (tX4 (st2 (tX4 (st2 (tX4 (st2 (τ) (48) 0) (50)) (49) 0) (55)) (49) 1) (60)) (49) 2) (65)) (49) 3) (70)) (49) 4) (75)) (49) 5) (80)) (49) 6) (85)) (49) 7) (90)) (49) 8) (95)) (49) 9) (100)) (49) 10) (105)) (49) 11) := hF38.mono (by omega)
  refine rn_dup dX2_init_32 rfl ?_
  refine rn_aload_n 2 dX2_init_33 rfl ?_
  refine rn_call (b := 110) (mc := 4) (ms := 22) (d' := 1) [.ref (K.2.1 + 3)] (IX4 (a := 110) (p := 3) (show okX4 110 3 by decide +kernel) hF39) ccX4_init imX4_init rfl (mw (i := 271) (by decide +kernel)) (by decide) rfl rfl (Nat.le_of_ble_eq_true rfl) dX2_init_34 (by decide) (by decide) ?_
  have hF40 : Fr (49 + 66) (σ) (tX4 (st2 (tX4 (st2 (tX4 (st2 (tX4 (st2 (tX4 (st2 (tX4 (st2 (tX4 (st2 (tX4 (st2 (tX4 (st2 (tX4 (st2 (tX4 (st2 (tX4 (st2 (tX4 (st2 (τ) (48) 0) (50)) (49) 0) (55)) (49) 1) (60)) (49) 2) (65)) (49) 3) (70)) (49) 4) (75)) (49) 5) (80)) (49) 6) (85)) (49) 7) (90)) (49) 8) (95)) (49) 9) (100)) (49) 10) (105)) (49) 11) (110)) := frX4 hF39
  refine rn_aast (t := 4) (N := 16) (a := 49) (v := 110) (ci := 4) (i := 12) rfl (by decide) (by decide +kernel) (by decide +kernel) (by decide) rfl (by omega) (by omega) (show rf 49 12 = 110 by decide +kernel) (by decide) (by decide) dX2_init_37 ?_
  have hF41 : Fr (49 + 66) (σ) (st2 (tX4 (st2 (tX4 (st2 (tX4 (st2 (tX4 (st2 (tX4 (st2 (tX4 (st2 (tX4 (st2 (tX4 (st2 (tX4 (st2 (tX4 (st2 (tX4 (st2 (tX4 (st2 (tX4 (st2 (τ) (48) 0) (50)) (49) 0) (55)) (49) 1) (60)) (49) 2) (65)) (49) 3) (70)) (49) 4) (75)) (49) 5) (80)) (49) 6) (85)) (49) 7) (90)) (49) 8) (95)) (49) 9) (100)) (49) 10) (105)) (49) 11) (110)) (49) 12) := hF40.st (by omega)
  refine rn_iinc (x2 := nI 13) [(2, .int (nI 13)), (0, .ref (K.2.1 + 48)), (1, .ref (K.2.1 + 3))] 0 dX2_init_38 rfl (by decide) (by decide) rfl ?_
  refine rn_goto 15 dX2_init_41 (by decide) ?_
  refine rn_iload_n 0 dX2_init_15 rfl ?_
  refine rn_aload_n 1 dX2_init_16 rfl ?_
  refine rn_getR fi_X2_11 (by decide +kernel) (by decide) (by omega) (by decide) (by rfl) dX2_init_17 ?_
  rw [(show rf 48 0 = 49 by decide +kernel)]
  refine rn_alen (t := 4) (N := 16) (v := nI 16) rfl (by decide) (by decide +kernel) (by omega) (by decide) dX2_init_20 ?_
  refine rn_ge_f 44 (by decide) dX2_init_21 (by decide) ?_
  refine rn_aload_n 1 dX2_init_24 rfl ?_
  refine rn_getR fi_X2_11 (by decide +kernel) (by decide) (by omega) (by decide) (by rfl) dX2_init_25 ?_
  rw [(show rf 48 0 = 49 by decide +kernel)]
  refine rn_iload_n 0 dX2_init_28 rfl ?_
  refine rn_new (ci := 4) (N := 7) kcX4 (by decide) (by decide) (mw (i := 269) (by decide +kernel)) (by decide +kernel) hF41 (by decide) (by decide) dX2_init_29 ?_
  have hF42 : Fr (49 + 67) (σ) (st2 (tX4 (st2 (tX4 (st2 (tX4 (st2 (tX4 (st2 (tX4 (st2 (tX4 (st2 (tX4 (st2 (tX4 (st2 (tX4 (st2 (tX4 (st2 (tX4 (st2 (tX4 (st2 (tX4 (st2 (τ) (48) 0) (50)) (49) 0) (55)) (49) 1) (60)) (49) 2) (65)) (49) 3) (70)) (49) 4) (75)) (49) 5) (80)) (49) 6) (85)) (49) 7) (90)) (49) 8) (95)) (49) 9) (100)) (49) 10) (105)) (49) 11) (110)) (49) 12) := hF41.mono (by omega)
  refine rn_dup dX2_init_32 rfl ?_
  refine rn_aload_n 2 dX2_init_33 rfl ?_
  refine rn_call (b := 115) (mc := 4) (ms := 22) (d' := 1) [.ref (K.2.1 + 3)] (IX4 (a := 115) (p := 3) (show okX4 115 3 by decide +kernel) hF42) ccX4_init imX4_init rfl (mw (i := 271) (by decide +kernel)) (by decide) rfl rfl (Nat.le_of_ble_eq_true rfl) dX2_init_34 (by decide) (by decide) ?_
  have hF43 : Fr (49 + 71) (σ) (tX4 (st2 (tX4 (st2 (tX4 (st2 (tX4 (st2 (tX4 (st2 (tX4 (st2 (tX4 (st2 (tX4 (st2 (tX4 (st2 (tX4 (st2 (tX4 (st2 (tX4 (st2 (tX4 (st2 (tX4 (st2 (τ) (48) 0) (50)) (49) 0) (55)) (49) 1) (60)) (49) 2) (65)) (49) 3) (70)) (49) 4) (75)) (49) 5) (80)) (49) 6) (85)) (49) 7) (90)) (49) 8) (95)) (49) 9) (100)) (49) 10) (105)) (49) 11) (110)) (49) 12) (115)) := frX4 hF42
  refine rn_aast (t := 4) (N := 16) (a := 49) (v := 115) (ci := 4) (i := 13) rfl (by decide) (by decide +kernel) (by decide +kernel) (by decide) rfl (by omega) (by omega) (show rf 49 13 = 115 by decide +kernel) (by decide) (by decide) dX2_init_37 ?_
  have hF44 : Fr (49 + 71) (σ) (st2 (tX4 (st2 (tX4 (st2 (tX4 (st2 (tX4 (st2 (tX4 (st2 (tX4 (st2 (tX4 (st2 (tX4 (st2 (tX4 (st2 (tX4 (st2 (tX4 (st2 (tX4 (st2 (tX4 (st2 (tX4 (st2 (τ) (48) 0) (50)) (49) 0) (55)) (49) 1) (60)) (49) 2) (65)) (49) 3) (70)) (49) 4) (75)) (49) 5) (80)) (49) 6) (85)) (49) 7) (90)) (49) 8) (95)) (49) 9) (100)) (49) 10) (105)) (49) 11) (110)) (49) 12) (115)) (49) 13) := hF43.st (by omega)
  refine rn_iinc (x2 := nI 14) [(2, .int (nI 14)), (0, .ref (K.2.1 + 48)), (1, .ref (K.2.1 + 3))] 0 dX2_init_38 rfl (by decide) (by decide) rfl ?_
  refine rn_goto 15 dX2_init_41 (by decide) ?_
  refine rn_iload_n 0 dX2_init_15 rfl ?_
  refine rn_aload_n 1 dX2_init_16 rfl ?_
  refine rn_getR fi_X2_11 (by decide +kernel) (by decide) (by omega) (by decide) (by rfl) dX2_init_17 ?_
  rw [(show rf 48 0 = 49 by decide +kernel)]
  refine rn_alen (t := 4) (N := 16) (v := nI 16) rfl (by decide) (by decide +kernel) (by omega) (by decide) dX2_init_20 ?_
  refine rn_ge_f 44 (by decide) dX2_init_21 (by decide) ?_
  refine rn_aload_n 1 dX2_init_24 rfl ?_
  refine rn_getR fi_X2_11 (by decide +kernel) (by decide) (by omega) (by decide) (by rfl) dX2_init_25 ?_
  rw [(show rf 48 0 = 49 by decide +kernel)]
  refine rn_iload_n 0 dX2_init_28 rfl ?_
  refine rn_new (ci := 4) (N := 7) kcX4 (by decide) (by decide) (mw (i := 269) (by decide +kernel)) (by decide +kernel) hF44 (by decide) (by decide) dX2_init_29 ?_
  have hF45 : Fr (49 + 72) (σ) (st2 (tX4 (st2 (tX4 (st2 (tX4 (st2 (tX4 (st2 (tX4 (st2 (tX4 (st2 (tX4 (st2 (tX4 (st2 (tX4 (st2 (tX4 (st2 (tX4 (st2 (tX4 (st2 (tX4 (st2 (tX4 (st2 (τ) (48) 0) (50)) (49) 0) (55)) (49) 1) (60)) (49) 2) (65)) (49) 3) (70)) (49) 4) (75)) (49) 5) (80)) (49) 6) (85)) (49) 7) (90)) (49) 8) (95)) (49) 9) (100)) (49) 10) (105)) (49) 11) (110)) (49) 12) (115)) (49) 13) := hF44.mono (by omega)
  refine rn_dup dX2_init_32 rfl ?_
  refine rn_aload_n 2 dX2_init_33 rfl ?_
  refine rn_call (b := 120) (mc := 4) (ms := 22) (d' := 1) [.ref (K.2.1 + 3)] (IX4 (a := 120) (p := 3) (show okX4 120 3 by decide +kernel) hF45) ccX4_init imX4_init rfl (mw (i := 271) (by decide +kernel)) (by decide) rfl rfl (Nat.le_of_ble_eq_true rfl) dX2_init_34 (by decide) (by decide) ?_
  have hF46 : Fr (49 + 76) (σ) (tX4 (st2 (tX4 (st2 (tX4 (st2 (tX4 (st2 (tX4 (st2 (tX4 (st2 (tX4 (st2 (tX4 (st2 (tX4 (st2 (tX4 (st2 (tX4 (st2 (tX4 (st2 (tX4 (st2 (tX4 (st2 (tX4 (st2 (τ) (48) 0) (50)) (49) 0) (55)) (49) 1) (60)) (49) 2) (65)) (49) 3) (70)) (49) 4) (75)) (49) 5) (80)) (49) 6) (85)) (49) 7) (90)) (49) 8) (95)) (49) 9) (100)) (49) 10) (105)) (49) 11) (110)) (49) 12) (115)) (49) 13) (120)) := frX4 hF45
  refine rn_aast (t := 4) (N := 16) (a := 49) (v := 120) (ci := 4) (i := 14) rfl (by decide) (by decide +kernel) (by decide +kernel) (by decide) rfl (by omega) (by omega) (show rf 49 14 = 120 by decide +kernel) (by decide) (by decide) dX2_init_37 ?_
  have hF47 : Fr (49 + 76) (σ) (st2 (tX4 (st2 (tX4 (st2 (tX4 (st2 (tX4 (st2 (tX4 (st2 (tX4 (st2 (tX4 (st2 (tX4 (st2 (tX4 (st2 (tX4 (st2 (tX4 (st2 (tX4 (st2 (tX4 (st2 (tX4 (st2 (tX4 (st2 (τ) (48) 0) (50)) (49) 0) (55)) (49) 1) (60)) (49) 2) (65)) (49) 3) (70)) (49) 4) (75)) (49) 5) (80)) (49) 6) (85)) (49) 7) (90)) (49) 8) (95)) (49) 9) (100)) (49) 10) (105)) (49) 11) (110)) (49) 12) (115)) (49) 13) (120)) (49) 14) := hF46.st (by omega)
  refine rn_iinc (x2 := nI 15) [(2, .int (nI 15)), (0, .ref (K.2.1 + 48)), (1, .ref (K.2.1 + 3))] 0 dX2_init_38 rfl (by decide) (by decide) rfl ?_
  refine rn_goto 15 dX2_init_41 (by decide) ?_
  refine rn_iload_n 0 dX2_init_15 rfl ?_
  refine rn_aload_n 1 dX2_init_16 rfl ?_
  refine rn_getR fi_X2_11 (by decide +kernel) (by decide) (by omega) (by decide) (by rfl) dX2_init_17 ?_
  rw [(show rf 48 0 = 49 by decide +kernel)]
  refine rn_alen (t := 4) (N := 16) (v := nI 16) rfl (by decide) (by decide +kernel) (by omega) (by decide) dX2_init_20 ?_
  refine rn_ge_f 44 (by decide) dX2_init_21 (by decide) ?_
  refine rn_aload_n 1 dX2_init_24 rfl ?_
  refine rn_getR fi_X2_11 (by decide +kernel) (by decide) (by omega) (by decide) (by rfl) dX2_init_25 ?_
  rw [(show rf 48 0 = 49 by decide +kernel)]
  refine rn_iload_n 0 dX2_init_28 rfl ?_
  refine rn_new (ci := 4) (N := 7) kcX4 (by decide) (by decide) (mw (i := 269) (by decide +kernel)) (by decide +kernel) hF47 (by decide) (by decide) dX2_init_29 ?_
  have hF48 : Fr (49 + 77) (σ) (st2 (tX4 (st2 (tX4 (st2 (tX4 (st2 (tX4 (st2 (tX4 (st2 (tX4 (st2 (tX4 (st2 (tX4 (st2 (tX4 (st2 (tX4 (st2 (tX4 (st2 (tX4 (st2 (tX4 (st2 (tX4 (st2 (tX4 (st2 (τ) (48) 0) (50)) (49) 0) (55)) (49) 1) (60)) (49) 2) (65)) (49) 3) (70)) (49) 4) (75)) (49) 5) (80)) (49) 6) (85)) (49) 7) (90)) (49) 8) (95)) (49) 9) (100)) (49) 10) (105)) (49) 11) (110)) (49) 12) (115)) (49) 13) (120)) (49) 14) := hF47.mono (by omega)
  refine rn_dup dX2_init_32 rfl ?_
  refine rn_aload_n 2 dX2_init_33 rfl ?_
  refine rn_call (b := 125) (mc := 4) (ms := 22) (d' := 1) [.ref (K.2.1 + 3)] (IX4 (a := 125) (p := 3) (show okX4 125 3 by decide +kernel) hF48) ccX4_init imX4_init rfl (mw (i := 271) (by decide +kernel)) (by decide) rfl rfl (Nat.le_of_ble_eq_true rfl) dX2_init_34 (by decide) (by decide) ?_
  have hF49 : Fr (49 + 81) (σ) (tX4 (st2 (tX4 (st2 (tX4 (st2 (tX4 (st2 (tX4 (st2 (tX4 (st2 (tX4 (st2 (tX4 (st2 (tX4 (st2 (tX4 (st2 (tX4 (st2 (tX4 (st2 (tX4 (st2 (tX4 (st2 (tX4 (st2 (tX4 (st2 (τ) (48) 0) (50)) (49) 0) (55)) (49) 1) (60)) (49) 2) (65)) (49) 3) (70)) (49) 4) (75)) (49) 5) (80)) (49) 6) (85)) (49) 7) (90)) (49) 8) (95)) (49) 9) (100)) (49) 10) (105)) (49) 11) (110)) (49) 12) (115)) (49) 13) (120)) (49) 14) (125)) := frX4 hF48
  refine rn_aast (t := 4) (N := 16) (a := 49) (v := 125) (ci := 4) (i := 15) rfl (by decide) (by decide +kernel) (by decide +kernel) (by decide) rfl (by omega) (by omega) (show rf 49 15 = 125 by decide +kernel) (by decide) (by decide) dX2_init_37 ?_
  have hF50 : Fr (49 + 81) (σ) (st2 (tX4 (st2 (tX4 (st2 (tX4 (st2 (tX4 (st2 (tX4 (st2 (tX4 (st2 (tX4 (st2 (tX4 (st2 (tX4 (st2 (tX4 (st2 (tX4 (st2 (tX4 (st2 (tX4 (st2 (tX4 (st2 (tX4 (st2 (tX4 (st2 (τ) (48) 0) (50)) (49) 0) (55)) (49) 1) (60)) (49) 2) (65)) (49) 3) (70)) (49) 4) (75)) (49) 5) (80)) (49) 6) (85)) (49) 7) (90)) (49) 8) (95)) (49) 9) (100)) (49) 10) (105)) (49) 11) (110)) (49) 12) (115)) (49) 13) (120)) (49) 14) (125)) (49) 15) := hF49.st (by omega)
  refine rn_iinc (x2 := nI 16) [(2, .int (nI 16)), (0, .ref (K.2.1 + 48)), (1, .ref (K.2.1 + 3))] 0 dX2_init_38 rfl (by decide) (by decide) rfl ?_
  refine rn_goto 15 dX2_init_41 (by decide) ?_
  refine rn_iload_n 0 dX2_init_15 rfl ?_
  refine rn_aload_n 1 dX2_init_16 rfl ?_
  refine rn_getR fi_X2_11 (by decide +kernel) (by decide) (by omega) (by decide) (by rfl) dX2_init_17 ?_
  rw [(show rf 48 0 = 49 by decide +kernel)]
  refine rn_alen (t := 4) (N := 16) (v := nI 16) rfl (by decide) (by decide +kernel) (by omega) (by decide) dX2_init_20 ?_
  refine rn_ge_t 44 (by decide) dX2_init_21 (by decide) ?_
  exact rn_ret rfl dX2_init_44
abbrev mX11_init : MI := (RX11, yX11_init, cX11_init, 2, none)
theorem dX11_init_0 : decode cX11_init 0 = .ok (.aload_n 0, 1) := by decide +kernel
theorem dX11_init_1 : decode cX11_init 1 = .ok (.invokespecial 1, 3) := by decide +kernel
theorem dX11_init_4 : decode cX11_init 4 = .ok (.aload_n 0, 1) := by decide +kernel
theorem dX11_init_5 : decode cX11_init 5 = .ok (.new 7, 3) := by decide +kernel
theorem dX11_init_8 : decode cX11_init 8 = .ok (.dup, 1) := by decide +kernel
theorem dX11_init_9 : decode cX11_init 9 = .ok (.invokespecial 9, 3) := by decide +kernel
theorem dX11_init_12 : decode cX11_init 12 = .ok (.putfield 10, 3) := by decide +kernel
theorem dX11_init_15 : decode cX11_init 15 = .ok (.aload_n 0, 1) := by decide +kernel
theorem dX11_init_16 : decode cX11_init 16 = .ok (.new 16, 3) := by decide +kernel
theorem dX11_init_19 : decode cX11_init 19 = .ok (.dup, 1) := by decide +kernel
theorem dX11_init_20 : decode cX11_init 20 = .ok (.invokespecial 18, 3) := by decide +kernel
theorem dX11_init_23 : decode cX11_init 23 = .ok (.putfield 19, 3) := by decide +kernel
theorem dX11_init_26 : decode cX11_init 26 = .ok (.aload_n 0, 1) := by decide +kernel
theorem dX11_init_27 : decode cX11_init 27 = .ok (.new 23, 3) := by decide +kernel
theorem dX11_init_30 : decode cX11_init 30 = .ok (.dup, 1) := by decide +kernel
theorem dX11_init_31 : decode cX11_init 31 = .ok (.aload_n 0, 1) := by decide +kernel
theorem dX11_init_32 : decode cX11_init 32 = .ok (.getfield 10, 3) := by decide +kernel
theorem dX11_init_35 : decode cX11_init 35 = .ok (.invokespecial 25, 3) := by decide +kernel
theorem dX11_init_38 : decode cX11_init 38 = .ok (.putfield 28, 3) := by decide +kernel
theorem dX11_init_41 : decode cX11_init 41 = .ok (.aload_n 0, 1) := by decide +kernel
theorem dX11_init_42 : decode cX11_init 42 = .ok (.new 32, 3) := by decide +kernel
theorem dX11_init_45 : decode cX11_init 45 = .ok (.dup, 1) := by decide +kernel
theorem dX11_init_46 : decode cX11_init 46 = .ok (.invokespecial 34, 3) := by decide +kernel
theorem dX11_init_49 : decode cX11_init 49 = .ok (.putfield 35, 3) := by decide +kernel
theorem dX11_init_52 : decode cX11_init 52 = .ok (.aload_n 0, 1) := by decide +kernel
theorem dX11_init_53 : decode cX11_init 53 = .ok (.new 32, 3) := by decide +kernel
theorem dX11_init_56 : decode cX11_init 56 = .ok (.dup, 1) := by decide +kernel
theorem dX11_init_57 : decode cX11_init 57 = .ok (.invokespecial 34, 3) := by decide +kernel
theorem dX11_init_60 : decode cX11_init 60 = .ok (.putfield 39, 3) := by decide +kernel
theorem dX11_init_63 : decode cX11_init 63 = .ok (.aload_n 0, 1) := by decide +kernel
theorem dX11_init_64 : decode cX11_init 64 = .ok (.new 42, 3) := by decide +kernel
theorem dX11_init_67 : decode cX11_init 67 = .ok (.dup, 1) := by decide +kernel
theorem dX11_init_68 : decode cX11_init 68 = .ok (.aload_n 0, 1) := by decide +kernel
theorem dX11_init_69 : decode cX11_init 69 = .ok (.getfield 19, 3) := by decide +kernel
theorem dX11_init_72 : decode cX11_init 72 = .ok (.invokespecial 44, 3) := by decide +kernel
theorem dX11_init_75 : decode cX11_init 75 = .ok (.putfield 47, 3) := by decide +kernel
theorem dX11_init_78 : decode cX11_init 78 = .ok (.aload_n 0, 1) := by decide +kernel
theorem dX11_init_79 : decode cX11_init 79 = .ok (.new 42, 3) := by decide +kernel
theorem dX11_init_82 : decode cX11_init 82 = .ok (.dup, 1) := by decide +kernel
theorem dX11_init_83 : decode cX11_init 83 = .ok (.aload_n 0, 1) := by decide +kernel
theorem dX11_init_84 : decode cX11_init 84 = .ok (.getfield 19, 3) := by decide +kernel
theorem dX11_init_87 : decode cX11_init 87 = .ok (.invokespecial 44, 3) := by decide +kernel
theorem dX11_init_90 : decode cX11_init 90 = .ok (.putfield 51, 3) := by decide +kernel
theorem dX11_init_93 : decode cX11_init 93 = .ok (.aload_n 0, 1) := by decide +kernel
theorem dX11_init_94 : decode cX11_init 94 = .ok (.new 54, 3) := by decide +kernel
theorem dX11_init_97 : decode cX11_init 97 = .ok (.dup, 1) := by decide +kernel
theorem dX11_init_98 : decode cX11_init 98 = .ok (.aload_n 0, 1) := by decide +kernel
theorem dX11_init_99 : decode cX11_init 99 = .ok (.getfield 19, 3) := by decide +kernel
theorem dX11_init_102 : decode cX11_init 102 = .ok (.invokespecial 56, 3) := by decide +kernel
theorem dX11_init_105 : decode cX11_init 105 = .ok (.putfield 57, 3) := by decide +kernel
theorem dX11_init_108 : decode cX11_init 108 = .ok (.aload_n 0, 1) := by decide +kernel
theorem dX11_init_109 : decode cX11_init 109 = .ok (.new 61, 3) := by decide +kernel
theorem dX11_init_112 : decode cX11_init 112 = .ok (.dup, 1) := by decide +kernel
theorem dX11_init_113 : decode cX11_init 113 = .ok (.aload_n 0, 1) := by decide +kernel
theorem dX11_init_114 : decode cX11_init 114 = .ok (.getfield 51, 3) := by decide +kernel
theorem dX11_init_117 : decode cX11_init 117 = .ok (.invokespecial 63, 3) := by decide +kernel
theorem dX11_init_120 : decode cX11_init 120 = .ok (.putfield 66, 3) := by decide +kernel
theorem dX11_init_123 : decode cX11_init 123 = .ok (.aload_n 0, 1) := by decide +kernel
theorem dX11_init_124 : decode cX11_init 124 = .ok (.new 70, 3) := by decide +kernel
theorem dX11_init_127 : decode cX11_init 127 = .ok (.dup, 1) := by decide +kernel
theorem dX11_init_128 : decode cX11_init 128 = .ok (.aload_n 0, 1) := by decide +kernel
theorem dX11_init_129 : decode cX11_init 129 = .ok (.getfield 51, 3) := by decide +kernel
theorem dX11_init_132 : decode cX11_init 132 = .ok (.invokespecial 72, 3) := by decide +kernel
theorem dX11_init_135 : decode cX11_init 135 = .ok (.putfield 73, 3) := by decide +kernel
theorem dX11_init_138 : decode cX11_init 138 = .ok (.aload_n 0, 1) := by decide +kernel
theorem dX11_init_139 : decode cX11_init 139 = .ok (.iconst 4, 1) := by decide +kernel
theorem dX11_init_140 : decode cX11_init 140 = .ok (.anewarray 77, 3) := by decide +kernel
theorem dX11_init_143 : decode cX11_init 143 = .ok (.putfield 79, 3) := by decide +kernel
theorem dX11_init_146 : decode cX11_init 146 = .ok (.iconst 0, 1) := by decide +kernel
theorem dX11_init_147 : decode cX11_init 147 = .ok (.istore_n 1, 1) := by decide +kernel
theorem dX11_init_148 : decode cX11_init 148 = .ok (.iload_n 1, 1) := by decide +kernel
theorem dX11_init_149 : decode cX11_init 149 = .ok (.aload_n 0, 1) := by decide +kernel
theorem dX11_init_150 : decode cX11_init 150 = .ok (.getfield 79, 3) := by decide +kernel
theorem dX11_init_153 : decode cX11_init 153 = .ok (.arraylength, 1) := by decide +kernel
theorem dX11_init_154 : decode cX11_init 154 = .ok (.if_icmp .ge 26, 3) := by decide +kernel
theorem dX11_init_157 : decode cX11_init 157 = .ok (.aload_n 0, 1) := by decide +kernel
theorem dX11_init_158 : decode cX11_init 158 = .ok (.getfield 79, 3) := by decide +kernel
theorem dX11_init_161 : decode cX11_init 161 = .ok (.iload_n 1, 1) := by decide +kernel
theorem dX11_init_162 : decode cX11_init 162 = .ok (.new 77, 3) := by decide +kernel
theorem dX11_init_165 : decode cX11_init 165 = .ok (.dup, 1) := by decide +kernel
theorem dX11_init_166 : decode cX11_init 166 = .ok (.aload_n 0, 1) := by decide +kernel
theorem dX11_init_167 : decode cX11_init 167 = .ok (.getfield 19, 3) := by decide +kernel
theorem dX11_init_170 : decode cX11_init 170 = .ok (.invokespecial 83, 3) := by decide +kernel
theorem dX11_init_173 : decode cX11_init 173 = .ok (.aastore, 1) := by decide +kernel
theorem dX11_init_174 : decode cX11_init 174 = .ok (.iinc 1 1, 3) := by decide +kernel
theorem dX11_init_177 : decode cX11_init 177 = .ok (.goto (-29), 3) := by decide +kernel
theorem dX11_init_180 : decode cX11_init 180 = .ok (.aload_n 0, 1) := by decide +kernel
theorem dX11_init_181 : decode cX11_init 181 = .ok (.bipush 7, 2) := by decide +kernel
theorem dX11_init_183 : decode cX11_init 183 = .ok (.anewarray 42, 3) := by decide +kernel
theorem dX11_init_186 : decode cX11_init 186 = .ok (.putfield 84, 3) := by decide +kernel
theorem dX11_init_189 : decode cX11_init 189 = .ok (.iconst 0, 1) := by decide +kernel
theorem dX11_init_190 : decode cX11_init 190 = .ok (.istore_n 1, 1) := by decide +kernel
theorem dX11_init_191 : decode cX11_init 191 = .ok (.iload_n 1, 1) := by decide +kernel
theorem dX11_init_192 : decode cX11_init 192 = .ok (.aload_n 0, 1) := by decide +kernel
theorem dX11_init_193 : decode cX11_init 193 = .ok (.getfield 84, 3) := by decide +kernel
theorem dX11_init_196 : decode cX11_init 196 = .ok (.arraylength, 1) := by decide +kernel
theorem dX11_init_197 : decode cX11_init 197 = .ok (.if_icmp .ge 26, 3) := by decide +kernel
theorem dX11_init_200 : decode cX11_init 200 = .ok (.aload_n 0, 1) := by decide +kernel
theorem dX11_init_201 : decode cX11_init 201 = .ok (.getfield 84, 3) := by decide +kernel
theorem dX11_init_204 : decode cX11_init 204 = .ok (.iload_n 1, 1) := by decide +kernel
theorem dX11_init_205 : decode cX11_init 205 = .ok (.new 42, 3) := by decide +kernel
theorem dX11_init_208 : decode cX11_init 208 = .ok (.dup, 1) := by decide +kernel
theorem dX11_init_209 : decode cX11_init 209 = .ok (.aload_n 0, 1) := by decide +kernel
theorem dX11_init_210 : decode cX11_init 210 = .ok (.getfield 19, 3) := by decide +kernel
theorem dX11_init_213 : decode cX11_init 213 = .ok (.invokespecial 44, 3) := by decide +kernel
theorem dX11_init_216 : decode cX11_init 216 = .ok (.aastore, 1) := by decide +kernel
theorem dX11_init_217 : decode cX11_init 217 = .ok (.iinc 1 1, 3) := by decide +kernel
theorem dX11_init_220 : decode cX11_init 220 = .ok (.goto (-29), 3) := by decide +kernel
theorem dX11_init_223 : decode cX11_init 223 = .ok (.return_, 1) := by decide +kernel
theorem ccX11_init : CC mX11_init 0 := ⟨mw (i := 31) (by decide +kernel), mw (i := 1) (by decide +kernel), ⟨by decide +kernel, by decide +kernel, by decide +kernel⟩, by decide⟩
theorem imX11_init : Cond.instanceMethod yX11_init ∈ lg := mw (i := 30) (by decide +kernel)
theorem kcX11 : KC 10 RX11 := ⟨TX11, 12, tyX11, rfl, rfl, iwX11, tyX11_ok, mw (i := 28) (by decide +kernel), mw (i := 1) (by decide +kernel), fun j hj => by
  rcases (show j = 0 ∨ j = 1 ∨ j = 2 ∨ j = 3 ∨ j = 4 ∨ j = 5 ∨ j = 6 ∨ j = 7 ∨ j = 8 ∨ j = 9 ∨ j = 10 ∨ j = 11 by omega) with rfl | rfl | rfl | rfl | rfl | rfl | rfl | rfl | rfl | rfl | rfl | rfl <;> rfl⟩
theorem ffX11_0 : FF0 10 0 RX11 := ⟨.object "LaundrySky$Tape", fun _ => ⟨rfl, rfl⟩, by
  intro C T N h
  cases h
  exact ⟨by decide +kernel, rfl, rfl⟩⟩
theorem ffX11_1 : FF0 10 1 RX11 := ⟨.object "LaundrySky$Town", fun _ => ⟨rfl, rfl⟩, by
  intro C T N h
  cases h
  exact ⟨by decide +kernel, rfl, rfl⟩⟩
theorem ffX11_2 : FF0 10 2 RX11 := ⟨.object "LaundrySky$TownReader", fun _ => ⟨rfl, rfl⟩, by
  intro C T N h
  cases h
  exact ⟨by decide +kernel, rfl, rfl⟩⟩
theorem ffX11_3 : FF0 10 3 RX11 := ⟨.object "LaundrySky$Plan", fun _ => ⟨rfl, rfl⟩, by
  intro C T N h
  cases h
  exact ⟨by decide +kernel, rfl, rfl⟩⟩
theorem ffX11_4 : FF0 10 4 RX11 := ⟨.object "LaundrySky$Plan", fun _ => ⟨rfl, rfl⟩, by
  intro C T N h
  cases h
  exact ⟨by decide +kernel, rfl, rfl⟩⟩
theorem ffX11_5 : FF0 10 5 RX11 := ⟨.object "LaundrySky$Sky", fun _ => ⟨rfl, rfl⟩, by
  intro C T N h
  cases h
  exact ⟨by decide +kernel, rfl, rfl⟩⟩
theorem ffX11_6 : FF0 10 6 RX11 := ⟨.object "LaundrySky$Sky", fun _ => ⟨rfl, rfl⟩, by
  intro C T N h
  cases h
  exact ⟨by decide +kernel, rfl, rfl⟩⟩
theorem ffX11_7 : FF0 10 7 RX11 := ⟨.object "LaundrySky$Past", fun _ => ⟨rfl, rfl⟩, by
  intro C T N h
  cases h
  exact ⟨by decide +kernel, rfl, rfl⟩⟩
theorem ffX11_8 : FF0 10 8 RX11 := ⟨.object "LaundrySky$Wishes", fun _ => ⟨rfl, rfl⟩, by
  intro C T N h
  cases h
  exact ⟨by decide +kernel, rfl, rfl⟩⟩
theorem ffX11_9 : FF0 10 9 RX11 := ⟨.object "LaundrySky$Tellings", fun _ => ⟨rfl, rfl⟩, by
  intro C T N h
  cases h
  exact ⟨by decide +kernel, rfl, rfl⟩⟩
theorem ffX11_10 : FF0 10 10 RX11 := ⟨.array (.object "LaundrySky$Mark"), fun _ => ⟨rfl, rfl⟩, by
  intro C T N h
  cases h
  exact ⟨by decide +kernel, rfl, rfl⟩⟩
theorem ffX11_11 : FF0 10 11 RX11 := ⟨.array (.object "LaundrySky$Sky"), fun _ => ⟨rfl, rfl⟩, by
  intro C T N h
  cases h
  exact ⟨by decide +kernel, rfl, rfl⟩⟩
def tX11 (τ : TT) : TT := st2 (tX4 (st2 (tX4 (st2 (tX4 (st2 (tX4 (st2 (tX4 (st2 (tX4 (st2 (tX4 (st2 (st2 (tX1 (st2 (tX1 (st2 (tX1 (st2 (tX1 (st2 (st2 (tX6 (st2 (tX9 (st2 (tX2 (st2 (tX4 (st2 (tX4 (st2 (tX3 (st2 (tX3 (st2 (tX8 (st2 (tX7 (st2 (tX5 (τ) (1)) (0) 0) (3)) (0) 1) (15)) (0) 2) (28)) (0) 3) (33)) (0) 4) (38)) (0) 5) (43)) (0) 6)) (0) 7) (130)) (0) 8) (134)) (0) 9) (0) 10) (145)) (144) 0) (162)) (144) 1) (179)) (144) 2) (196)) (144) 3) (0) 11) (214)) (213) 0) (219)) (213) 1) (224)) (213) 2) (229)) (213) 3) (234)) (213) 4) (239)) (213) 5) (244)) (213) 6
def sX11 (σ : MM) : MM := sX9 (σ) (130)
theorem frX11 {σ : MM} {τ : TT} (hF : Fr (1) σ τ) : Fr (1 + 248) (sX11 σ) (tX11 τ) := by
  have hF1 : Fr (1 + 1) (σ) (τ) := hF.mono (by omega)
  have hF2 : Fr (1 + 2) (σ) (tX5 (τ) (1)) := frX5 hF1
  have hF3 : Fr (1 + 2) (σ) (st2 (tX5 (τ) (1)) (0) 0) := hF2.st (by omega)
  have hF4 : Fr (1 + 3) (σ) (st2 (tX5 (τ) (1)) (0) 0) := hF3.mono (by omega)
  have hF5 : Fr (1 + 14) (σ) (tX7 (st2 (tX5 (τ) (1)) (0) 0) (3)) := frX7 hF4
  have hF6 : Fr (1 + 14) (σ) (st2 (tX7 (st2 (tX5 (τ) (1)) (0) 0) (3)) (0) 1) := hF5.st (by omega)
  have hF7 : Fr (1 + 15) (σ) (st2 (tX7 (st2 (tX5 (τ) (1)) (0) 0) (3)) (0) 1) := hF6.mono (by omega)
  have hF8 : Fr (1 + 27) (σ) (tX8 (st2 (tX7 (st2 (tX5 (τ) (1)) (0) 0) (3)) (0) 1) (15)) := frX8 hF7
  have hF9 : Fr (1 + 27) (σ) (st2 (tX8 (st2 (tX7 (st2 (tX5 (τ) (1)) (0) 0) (3)) (0) 1) (15)) (0) 2) := hF8.st (by omega)
  have hF10 : Fr (1 + 28) (σ) (st2 (tX8 (st2 (tX7 (st2 (tX5 (τ) (1)) (0) 0) (3)) (0) 1) (15)) (0) 2) := hF9.mono (by omega)
  have hF11 : Fr (1 + 32) (σ) (tX3 (st2 (tX8 (st2 (tX7 (st2 (tX5 (τ) (1)) (0) 0) (3)) (0) 1) (15)) (0) 2) (28)) := frX3 hF10
  have hF12 : Fr (1 + 32) (σ) (st2 (tX3 (st2 (tX8 (st2 (tX7 (st2 (tX5 (τ) (1)) (0) 0) (3)) (0) 1) (15)) (0) 2) (28)) (0) 3) := hF11.st (by omega)
  have hF13 : Fr (1 + 33) (σ) (st2 (tX3 (st2 (tX8 (st2 (tX7 (st2 (tX5 (τ) (1)) (0) 0) (3)) (0) 1) (15)) (0) 2) (28)) (0) 3) := hF12.mono (by omega)
  have hF14 : Fr (1 + 37) (σ) (tX3 (st2 (tX3 (st2 (tX8 (st2 (tX7 (st2 (tX5 (τ) (1)) (0) 0) (3)) (0) 1) (15)) (0) 2) (28)) (0) 3) (33)) := frX3 hF13
  have hF15 : Fr (1 + 37) (σ) (st2 (tX3 (st2 (tX3 (st2 (tX8 (st2 (tX7 (st2 (tX5 (τ) (1)) (0) 0) (3)) (0) 1) (15)) (0) 2) (28)) (0) 3) (33)) (0) 4) := hF14.st (by omega)
  have hF16 : Fr (1 + 38) (σ) (st2 (tX3 (st2 (tX3 (st2 (tX8 (st2 (tX7 (st2 (tX5 (τ) (1)) (0) 0) (3)) (0) 1) (15)) (0) 2) (28)) (0) 3) (33)) (0) 4) := hF15.mono (by omega)
  have hF17 : Fr (1 + 42) (σ) (tX4 (st2 (tX3 (st2 (tX3 (st2 (tX8 (st2 (tX7 (st2 (tX5 (τ) (1)) (0) 0) (3)) (0) 1) (15)) (0) 2) (28)) (0) 3) (33)) (0) 4) (38)) := frX4 hF16
  have hF18 : Fr (1 + 42) (σ) (st2 (tX4 (st2 (tX3 (st2 (tX3 (st2 (tX8 (st2 (tX7 (st2 (tX5 (τ) (1)) (0) 0) (3)) (0) 1) (15)) (0) 2) (28)) (0) 3) (33)) (0) 4) (38)) (0) 5) := hF17.st (by omega)
  have hF19 : Fr (1 + 43) (σ) (st2 (tX4 (st2 (tX3 (st2 (tX3 (st2 (tX8 (st2 (tX7 (st2 (tX5 (τ) (1)) (0) 0) (3)) (0) 1) (15)) (0) 2) (28)) (0) 3) (33)) (0) 4) (38)) (0) 5) := hF18.mono (by omega)
  have hF20 : Fr (1 + 47) (σ) (tX4 (st2 (tX4 (st2 (tX3 (st2 (tX3 (st2 (tX8 (st2 (tX7 (st2 (tX5 (τ) (1)) (0) 0) (3)) (0) 1) (15)) (0) 2) (28)) (0) 3) (33)) (0) 4) (38)) (0) 5) (43)) := frX4 hF19
  have hF21 : Fr (1 + 47) (σ) (st2 (tX4 (st2 (tX4 (st2 (tX3 (st2 (tX3 (st2 (tX8 (st2 (tX7 (st2 (tX5 (τ) (1)) (0) 0) (3)) (0) 1) (15)) (0) 2) (28)) (0) 3) (33)) (0) 4) (38)) (0) 5) (43)) (0) 6) := hF20.st (by omega)
  have hF22 : Fr (1 + 48) (σ) (st2 (tX4 (st2 (tX4 (st2 (tX3 (st2 (tX3 (st2 (tX8 (st2 (tX7 (st2 (tX5 (τ) (1)) (0) 0) (3)) (0) 1) (15)) (0) 2) (28)) (0) 3) (33)) (0) 4) (38)) (0) 5) (43)) (0) 6) := hF21.mono (by omega)
  have hF23 : Fr (1 + 129) (σ) (tX2 (st2 (tX4 (st2 (tX4 (st2 (tX3 (st2 (tX3 (st2 (tX8 (st2 (tX7 (st2 (tX5 (τ) (1)) (0) 0) (3)) (0) 1) (15)) (0) 2) (28)) (0) 3) (33)) (0) 4) (38)) (0) 5) (43)) (0) 6)) := frX2 hF22
  have hF24 : Fr (1 + 129) (σ) (st2 (tX2 (st2 (tX4 (st2 (tX4 (st2 (tX3 (st2 (tX3 (st2 (tX8 (st2 (tX7 (st2 (tX5 (τ) (1)) (0) 0) (3)) (0) 1) (15)) (0) 2) (28)) (0) 3) (33)) (0) 4) (38)) (0) 5) (43)) (0) 6)) (0) 7) := hF23.st (by omega)
  have hF25 : Fr (1 + 130) (σ) (st2 (tX2 (st2 (tX4 (st2 (tX4 (st2 (tX3 (st2 (tX3 (st2 (tX8 (st2 (tX7 (st2 (tX5 (τ) (1)) (0) 0) (3)) (0) 1) (15)) (0) 2) (28)) (0) 3) (33)) (0) 4) (38)) (0) 5) (43)) (0) 6)) (0) 7) := hF24.mono (by omega)
  have hF26 : Fr (1 + 133) (sX9 (σ) (130)) (tX9 (st2 (tX2 (st2 (tX4 (st2 (tX4 (st2 (tX3 (st2 (tX3 (st2 (tX8 (st2 (tX7 (st2 (tX5 (τ) (1)) (0) 0) (3)) (0) 1) (15)) (0) 2) (28)) (0) 3) (33)) (0) 4) (38)) (0) 5) (43)) (0) 6)) (0) 7) (130)) := frX9 hF25
  have hF27 : Fr (1 + 133) (sX9 (σ) (130)) (st2 (tX9 (st2 (tX2 (st2 (tX4 (st2 (tX4 (st2 (tX3 (st2 (tX3 (st2 (tX8 (st2 (tX7 (st2 (tX5 (τ) (1)) (0) 0) (3)) (0) 1) (15)) (0) 2) (28)) (0) 3) (33)) (0) 4) (38)) (0) 5) (43)) (0) 6)) (0) 7) (130)) (0) 8) := hF26.st (by omega)
  have hF28 : Fr (1 + 134) (sX9 (σ) (130)) (st2 (tX9 (st2 (tX2 (st2 (tX4 (st2 (tX4 (st2 (tX3 (st2 (tX3 (st2 (tX8 (st2 (tX7 (st2 (tX5 (τ) (1)) (0) 0) (3)) (0) 1) (15)) (0) 2) (28)) (0) 3) (33)) (0) 4) (38)) (0) 5) (43)) (0) 6)) (0) 7) (130)) (0) 8) := hF27.mono (by omega)
  have hF29 : Fr (1 + 143) (sX9 (σ) (130)) (tX6 (st2 (tX9 (st2 (tX2 (st2 (tX4 (st2 (tX4 (st2 (tX3 (st2 (tX3 (st2 (tX8 (st2 (tX7 (st2 (tX5 (τ) (1)) (0) 0) (3)) (0) 1) (15)) (0) 2) (28)) (0) 3) (33)) (0) 4) (38)) (0) 5) (43)) (0) 6)) (0) 7) (130)) (0) 8) (134)) := frX6 hF28
  have hF30 : Fr (1 + 143) (sX9 (σ) (130)) (st2 (tX6 (st2 (tX9 (st2 (tX2 (st2 (tX4 (st2 (tX4 (st2 (tX3 (st2 (tX3 (st2 (tX8 (st2 (tX7 (st2 (tX5 (τ) (1)) (0) 0) (3)) (0) 1) (15)) (0) 2) (28)) (0) 3) (33)) (0) 4) (38)) (0) 5) (43)) (0) 6)) (0) 7) (130)) (0) 8) (134)) (0) 9) := hF29.st (by omega)
  have hF31 : Fr (1 + 144) (sX9 (σ) (130)) (st2 (tX6 (st2 (tX9 (st2 (tX2 (st2 (tX4 (st2 (tX4 (st2 (tX3 (st2 (tX3 (st2 (tX8 (st2 (tX7 (st2 (tX5 (τ) (1)) (0) 0) (3)) (0) 1) (15)) (0) 2) (28)) (0) 3) (33)) (0) 4) (38)) (0) 5) (43)) (0) 6)) (0) 7) (130)) (0) 8) (134)) (0) 9) := hF30.mono (by omega)
  have hF32 : Fr (1 + 144) (sX9 (σ) (130)) (st2 (st2 (tX6 (st2 (tX9 (st2 (tX2 (st2 (tX4 (st2 (tX4 (st2 (tX3 (st2 (tX3 (st2 (tX8 (st2 (tX7 (st2 (tX5 (τ) (1)) (0) 0) (3)) (0) 1) (15)) (0) 2) (28)) (0) 3) (33)) (0) 4) (38)) (0) 5) (43)) (0) 6)) (0) 7) (130)) (0) 8) (134)) (0) 9) (0) 10) := hF31.st (by omega)
  have hF33 : Fr (1 + 145) (sX9 (σ) (130)) (st2 (st2 (tX6 (st2 (tX9 (st2 (tX2 (st2 (tX4 (st2 (tX4 (st2 (tX3 (st2 (tX3 (st2 (tX8 (st2 (tX7 (st2 (tX5 (τ) (1)) (0) 0) (3)) (0) 1) (15)) (0) 2) (28)) (0) 3) (33)) (0) 4) (38)) (0) 5) (43)) (0) 6)) (0) 7) (130)) (0) 8) (134)) (0) 9) (0) 10) := hF32.mono (by omega)
  have hF34 : Fr (1 + 161) (sX9 (σ) (130)) (tX1 (st2 (st2 (tX6 (st2 (tX9 (st2 (tX2 (st2 (tX4 (st2 (tX4 (st2 (tX3 (st2 (tX3 (st2 (tX8 (st2 (tX7 (st2 (tX5 (τ) (1)) (0) 0) (3)) (0) 1) (15)) (0) 2) (28)) (0) 3) (33)) (0) 4) (38)) (0) 5) (43)) (0) 6)) (0) 7) (130)) (0) 8) (134)) (0) 9) (0) 10) (145)) := frX1 hF33
  have hF35 : Fr (1 + 161) (sX9 (σ) (130)) (st2 (tX1 (st2 (st2 (tX6 (st2 (tX9 (st2 (tX2 (st2 (tX4 (st2 (tX4 (st2 (tX3 (st2 (tX3 (st2 (tX8 (st2 (tX7 (st2 (tX5 (τ) (1)) (0) 0) (3)) (0) 1) (15)) (0) 2) (28)) (0) 3) (33)) (0) 4) (38)) (0) 5) (43)) (0) 6)) (0) 7) (130)) (0) 8) (134)) (0) 9) (0) 10) (145)) (144) 0) := hF34.st (by omega)
  have hF36 : Fr (1 + 162) (sX9 (σ) (130)) (st2 (tX1 (st2 (st2 (tX6 (st2 (tX9 (st2 (tX2 (st2 (tX4 (st2 (tX4 (st2 (tX3 (st2 (tX3 (st2 (tX8 (st2 (tX7 (st2 (tX5 (τ) (1)) (0) 0) (3)) (0) 1) (15)) (0) 2) (28)) (0) 3) (33)) (0) 4) (38)) (0) 5) (43)) (0) 6)) (0) 7) (130)) (0) 8) (134)) (0) 9) (0) 10) (145)) (144) 0) := hF35.mono (by omega)
  have hF37 : Fr (1 + 178) (sX9 (σ) (130)) (tX1 (st2 (tX1 (st2 (st2 (tX6 (st2 (tX9 (st2 (tX2 (st2 (tX4 (st2 (tX4 (st2 (tX3 (st2 (tX3 (st2 (tX8 (st2 (tX7 (st2 (tX5 (τ) (1)) (0) 0) (3)) (0) 1) (15)) (0) 2) (28)) (0) 3) (33)) (0) 4) (38)) (0) 5) (43)) (0) 6)) (0) 7) (130)) (0) 8) (134)) (0) 9) (0) 10) (145)) (144) 0) (162)) := frX1 hF36
  have hF38 : Fr (1 + 178) (sX9 (σ) (130)) (st2 (tX1 (st2 (tX1 (st2 (st2 (tX6 (st2 (tX9 (st2 (tX2 (st2 (tX4 (st2 (tX4 (st2 (tX3 (st2 (tX3 (st2 (tX8 (st2 (tX7 (st2 (tX5 (τ) (1)) (0) 0) (3)) (0) 1) (15)) (0) 2) (28)) (0) 3) (33)) (0) 4) (38)) (0) 5) (43)) (0) 6)) (0) 7) (130)) (0) 8) (134)) (0) 9) (0) 10) (145)) (144) 0) (162)) (144) 1) := hF37.st (by omega)
  have hF39 : Fr (1 + 179) (sX9 (σ) (130)) (st2 (tX1 (st2 (tX1 (st2 (st2 (tX6 (st2 (tX9 (st2 (tX2 (st2 (tX4 (st2 (tX4 (st2 (tX3 (st2 (tX3 (st2 (tX8 (st2 (tX7 (st2 (tX5 (τ) (1)) (0) 0) (3)) (0) 1) (15)) (0) 2) (28)) (0) 3) (33)) (0) 4) (38)) (0) 5) (43)) (0) 6)) (0) 7) (130)) (0) 8) (134)) (0) 9) (0) 10) (145)) (144) 0) (162)) (144) 1) := hF38.mono (by omega)
  have hF40 : Fr (1 + 195) (sX9 (σ) (130)) (tX1 (st2 (tX1 (st2 (tX1 (st2 (st2 (tX6 (st2 (tX9 (st2 (tX2 (st2 (tX4 (st2 (tX4 (st2 (tX3 (st2 (tX3 (st2 (tX8 (st2 (tX7 (st2 (tX5 (τ) (1)) (0) 0) (3)) (0) 1) (15)) (0) 2) (28)) (0) 3) (33)) (0) 4) (38)) (0) 5) (43)) (0) 6)) (0) 7) (130)) (0) 8) (134)) (0) 9) (0) 10) (145)) (144) 0) (162)) (144) 1) (179)) := frX1 hF39
  have hF41 : Fr (1 + 195) (sX9 (σ) (130)) (st2 (tX1 (st2 (tX1 (st2 (tX1 (st2 (st2 (tX6 (st2 (tX9 (st2 (tX2 (st2 (tX4 (st2 (tX4 (st2 (tX3 (st2 (tX3 (st2 (tX8 (st2 (tX7 (st2 (tX5 (τ) (1)) (0) 0) (3)) (0) 1) (15)) (0) 2) (28)) (0) 3) (33)) (0) 4) (38)) (0) 5) (43)) (0) 6)) (0) 7) (130)) (0) 8) (134)) (0) 9) (0) 10) (145)) (144) 0) (162)) (144) 1) (179)) (144) 2) := hF40.st (by omega)
  have hF42 : Fr (1 + 196) (sX9 (σ) (130)) (st2 (tX1 (st2 (tX1 (st2 (tX1 (st2 (st2 (tX6 (st2 (tX9 (st2 (tX2 (st2 (tX4 (st2 (tX4 (st2 (tX3 (st2 (tX3 (st2 (tX8 (st2 (tX7 (st2 (tX5 (τ) (1)) (0) 0) (3)) (0) 1) (15)) (0) 2) (28)) (0) 3) (33)) (0) 4) (38)) (0) 5) (43)) (0) 6)) (0) 7) (130)) (0) 8) (134)) (0) 9) (0) 10) (145)) (144) 0) (162)) (144) 1) (179)) (144) 2) := hF41.mono (by omega)
  have hF43 : Fr (1 + 212) (sX9 (σ) (130)) (tX1 (st2 (tX1 (st2 (tX1 (st2 (tX1 (st2 (st2 (tX6 (st2 (tX9 (st2 (tX2 (st2 (tX4 (st2 (tX4 (st2 (tX3 (st2 (tX3 (st2 (tX8 (st2 (tX7 (st2 (tX5 (τ) (1)) (0) 0) (3)) (0) 1) (15)) (0) 2) (28)) (0) 3) (33)) (0) 4) (38)) (0) 5) (43)) (0) 6)) (0) 7) (130)) (0) 8) (134)) (0) 9) (0) 10) (145)) (144) 0) (162)) (144) 1) (179)) (144) 2) (196)) := frX1 hF42
  have hF44 : Fr (1 + 212) (sX9 (σ) (130)) (st2 (tX1 (st2 (tX1 (st2 (tX1 (st2 (tX1 (st2 (st2 (tX6 (st2 (tX9 (st2 (tX2 (st2 (tX4 (st2 (tX4 (st2 (tX3 (st2 (tX3 (st2 (tX8 (st2 (tX7 (st2 (tX5 (τ) (1)) (0) 0) (3)) (0) 1) (15)) (0) 2) (28)) (0) 3) (33)) (0) 4) (38)) (0) 5) (43)) (0) 6)) (0) 7) (130)) (0) 8) (134)) (0) 9) (0) 10) (145)) (144) 0) (162)) (144) 1) (179)) (144) 2) (196)) (144) 3) := hF43.st (by omega)
  have hF45 : Fr (1 + 213) (sX9 (σ) (130)) (st2 (tX1 (st2 (tX1 (st2 (tX1 (st2 (tX1 (st2 (st2 (tX6 (st2 (tX9 (st2 (tX2 (st2 (tX4 (st2 (tX4 (st2 (tX3 (st2 (tX3 (st2 (tX8 (st2 (tX7 (st2 (tX5 (τ) (1)) (0) 0) (3)) (0) 1) (15)) (0) 2) (28)) (0) 3) (33)) (0) 4) (38)) (0) 5) (43)) (0) 6)) (0) 7) (130)) (0) 8) (134)) (0) 9) (0) 10) (145)) (144) 0) (162)) (144) 1) (179)) (144) 2) (196)) (144) 3) := hF44.mono (by omega)
  have hF46 : Fr (1 + 213) (sX9 (σ) (130)) (st2 (st2 (tX1 (st2 (tX1 (st2 (tX1 (st2 (tX1 (st2 (st2 (tX6 (st2 (tX9 (st2 (tX2 (st2 (tX4 (st2 (tX4 (st2 (tX3 (st2 (tX3 (st2 (tX8 (st2 (tX7 (st2 (tX5 (τ) (1)) (0) 0) (3)) (0) 1) (15)) (0) 2) (28)) (0) 3) (33)) (0) 4) (38)) (0) 5) (43)) (0) 6)) (0) 7) (130)) (0) 8) (134)) (0) 9) (0) 10) (145)) (144) 0) (162)) (144) 1) (179)) (144) 2) (196)) (144) 3) (0) 11) := hF45.st (by omega)
  have hF47 : Fr (1 + 214) (sX9 (σ) (130)) (st2 (st2 (tX1 (st2 (tX1 (st2 (tX1 (st2 (tX1 (st2 (st2 (tX6 (st2 (tX9 (st2 (tX2 (st2 (tX4 (st2 (tX4 (st2 (tX3 (st2 (tX3 (st2 (tX8 (st2 (tX7 (st2 (tX5 (τ) (1)) (0) 0) (3)) (0) 1) (15)) (0) 2) (28)) (0) 3) (33)) (0) 4) (38)) (0) 5) (43)) (0) 6)) (0) 7) (130)) (0) 8) (134)) (0) 9) (0) 10) (145)) (144) 0) (162)) (144) 1) (179)) (144) 2) (196)) (144) 3) (0) 11) := hF46.mono (by omega)
  have hF48 : Fr (1 + 218) (sX9 (σ) (130)) (tX4 (st2 (st2 (tX1 (st2 (tX1 (st2 (tX1 (st2 (tX1 (st2 (st2 (tX6 (st2 (tX9 (st2 (tX2 (st2 (tX4 (st2 (tX4 (st2 (tX3 (st2 (tX3 (st2 (tX8 (st2 (tX7 (st2 (tX5 (τ) (1)) (0) 0) (3)) (0) 1) (15)) (0) 2) (28)) (0) 3) (33)) (0) 4) (38)) (0) 5) (43)) (0) 6)) (0) 7) (130)) (0) 8) (134)) (0) 9) (0) 10) (145)) (144) 0) (162)) (144) 1) (179)) (144) 2) (196)) (144) 3) (0) 11) (214)) := frX4 hF47
  have hF49 : Fr (1 + 218) (sX9 (σ) (130)) (st2 (tX4 (st2 (st2 (tX1 (st2 (tX1 (st2 (tX1 (st2 (tX1 (st2 (st2 (tX6 (st2 (tX9 (st2 (tX2 (st2 (tX4 (st2 (tX4 (st2 (tX3 (st2 (tX3 (st2 (tX8 (st2 (tX7 (st2 (tX5 (τ) (1)) (0) 0) (3)) (0) 1) (15)) (0) 2) (28)) (0) 3) (33)) (0) 4) (38)) (0) 5) (43)) (0) 6)) (0) 7) (130)) (0) 8) (134)) (0) 9) (0) 10) (145)) (144) 0) (162)) (144) 1) (179)) (144) 2) (196)) (144) 3) (0) 11) (214)) (213) 0) := hF48.st (by omega)
  have hF50 : Fr (1 + 219) (sX9 (σ) (130)) (st2 (tX4 (st2 (st2 (tX1 (st2 (tX1 (st2 (tX1 (st2 (tX1 (st2 (st2 (tX6 (st2 (tX9 (st2 (tX2 (st2 (tX4 (st2 (tX4 (st2 (tX3 (st2 (tX3 (st2 (tX8 (st2 (tX7 (st2 (tX5 (τ) (1)) (0) 0) (3)) (0) 1) (15)) (0) 2) (28)) (0) 3) (33)) (0) 4) (38)) (0) 5) (43)) (0) 6)) (0) 7) (130)) (0) 8) (134)) (0) 9) (0) 10) (145)) (144) 0) (162)) (144) 1) (179)) (144) 2) (196)) (144) 3) (0) 11) (214)) (213) 0) := hF49.mono (by omega)
  have hF51 : Fr (1 + 223) (sX9 (σ) (130)) (tX4 (st2 (tX4 (st2 (st2 (tX1 (st2 (tX1 (st2 (tX1 (st2 (tX1 (st2 (st2 (tX6 (st2 (tX9 (st2 (tX2 (st2 (tX4 (st2 (tX4 (st2 (tX3 (st2 (tX3 (st2 (tX8 (st2 (tX7 (st2 (tX5 (τ) (1)) (0) 0) (3)) (0) 1) (15)) (0) 2) (28)) (0) 3) (33)) (0) 4) (38)) (0) 5) (43)) (0) 6)) (0) 7) (130)) (0) 8) (134)) (0) 9) (0) 10) (145)) (144) 0) (162)) (144) 1) (179)) (144) 2) (196)) (144) 3) (0) 11) (214)) (213) 0) (219)) := frX4 hF50
  have hF52 : Fr (1 + 223) (sX9 (σ) (130)) (st2 (tX4 (st2 (tX4 (st2 (st2 (tX1 (st2 (tX1 (st2 (tX1 (st2 (tX1 (st2 (st2 (tX6 (st2 (tX9 (st2 (tX2 (st2 (tX4 (st2 (tX4 (st2 (tX3 (st2 (tX3 (st2 (tX8 (st2 (tX7 (st2 (tX5 (τ) (1)) (0) 0) (3)) (0) 1) (15)) (0) 2) (28)) (0) 3) (33)) (0) 4) (38)) (0) 5) (43)) (0) 6)) (0) 7) (130)) (0) 8) (134)) (0) 9) (0) 10) (145)) (144) 0) (162)) (144) 1) (179)) (144) 2) (196)) (144) 3) (0) 11) (214)) (213) 0) (219)) (213) 1) := hF51.st (by omega)
  have hF53 : Fr (1 + 224) (sX9 (σ) (130)) (st2 (tX4 (st2 (tX4 (st2 (st2 (tX1 (st2 (tX1 (st2 (tX1 (st2 (tX1 (st2 (st2 (tX6 (st2 (tX9 (st2 (tX2 (st2 (tX4 (st2 (tX4 (st2 (tX3 (st2 (tX3 (st2 (tX8 (st2 (tX7 (st2 (tX5 (τ) (1)) (0) 0) (3)) (0) 1) (15)) (0) 2) (28)) (0) 3) (33)) (0) 4) (38)) (0) 5) (43)) (0) 6)) (0) 7) (130)) (0) 8) (134)) (0) 9) (0) 10) (145)) (144) 0) (162)) (144) 1) (179)) (144) 2) (196)) (144) 3) (0) 11) (214)) (213) 0) (219)) (213) 1) := hF52.mono (by omega)
  have hF54 : Fr (1 + 228) (sX9 (σ) (130)) (tX4 (st2 (tX4 (st2 (tX4 (st2 (st2 (tX1 (st2 (tX1 (st2 (tX1 (st2 (tX1 (st2 (st2 (tX6 (st2 (tX9 (st2 (tX2 (st2 (tX4 (st2 (tX4 (st2 (tX3 (st2 (tX3 (st2 (tX8 (st2 (tX7 (st2 (tX5 (τ) (1)) (0) 0) (3)) (0) 1) (15)) (0) 2) (28)) (0) 3) (33)) (0) 4) (38)) (0) 5) (43)) (0) 6)) (0) 7) (130)) (0) 8) (134)) (0) 9) (0) 10) (145)) (144) 0) (162)) (144) 1) (179)) (144) 2) (196)) (144) 3) (0) 11) (214)) (213) 0) (219)) (213) 1) (224)) := frX4 hF53
  have hF55 : Fr (1 + 228) (sX9 (σ) (130)) (st2 (tX4 (st2 (tX4 (st2 (tX4 (st2 (st2 (tX1 (st2 (tX1 (st2 (tX1 (st2 (tX1 (st2 (st2 (tX6 (st2 (tX9 (st2 (tX2 (st2 (tX4 (st2 (tX4 (st2 (tX3 (st2 (tX3 (st2 (tX8 (st2 (tX7 (st2 (tX5 (τ) (1)) (0) 0) (3)) (0) 1) (15)) (0) 2) (28)) (0) 3) (33)) (0) 4) (38)) (0) 5) (43)) (0) 6)) (0) 7) (130)) (0) 8) (134)) (0) 9) (0) 10) (145)) (144) 0) (162)) (144) 1) (179)) (144) 2) (196)) (144) 3) (0) 11) (214)) (213) 0) (219)) (213) 1) (224)) (213) 2) := hF54.st (by omega)
  have hF56 : Fr (1 + 229) (sX9 (σ) (130)) (st2 (tX4 (st2 (tX4 (st2 (tX4 (st2 (st2 (tX1 (st2 (tX1 (st2 (tX1 (st2 (tX1 (st2 (st2 (tX6 (st2 (tX9 (st2 (tX2 (st2 (tX4 (st2 (tX4 (st2 (tX3 (st2 (tX3 (st2 (tX8 (st2 (tX7 (st2 (tX5 (τ) (1)) (0) 0) (3)) (0) 1) (15)) (0) 2) (28)) (0) 3) (33)) (0) 4) (38)) (0) 5) (43)) (0) 6)) (0) 7) (130)) (0) 8) (134)) (0) 9) (0) 10) (145)) (144) 0) (162)) (144) 1) (179)) (144) 2) (196)) (144) 3) (0) 11) (214)) (213) 0) (219)) (213) 1) (224)) (213) 2) := hF55.mono (by omega)
  have hF57 : Fr (1 + 233) (sX9 (σ) (130)) (tX4 (st2 (tX4 (st2 (tX4 (st2 (tX4 (st2 (st2 (tX1 (st2 (tX1 (st2 (tX1 (st2 (tX1 (st2 (st2 (tX6 (st2 (tX9 (st2 (tX2 (st2 (tX4 (st2 (tX4 (st2 (tX3 (st2 (tX3 (st2 (tX8 (st2 (tX7 (st2 (tX5 (τ) (1)) (0) 0) (3)) (0) 1) (15)) (0) 2) (28)) (0) 3) (33)) (0) 4) (38)) (0) 5) (43)) (0) 6)) (0) 7) (130)) (0) 8) (134)) (0) 9) (0) 10) (145)) (144) 0) (162)) (144) 1) (179)) (144) 2) (196)) (144) 3) (0) 11) (214)) (213) 0) (219)) (213) 1) (224)) (213) 2) (229)) := frX4 hF56
  have hF58 : Fr (1 + 233) (sX9 (σ) (130)) (st2 (tX4 (st2 (tX4 (st2 (tX4 (st2 (tX4 (st2 (st2 (tX1 (st2 (tX1 (st2 (tX1 (st2 (tX1 (st2 (st2 (tX6 (st2 (tX9 (st2 (tX2 (st2 (tX4 (st2 (tX4 (st2 (tX3 (st2 (tX3 (st2 (tX8 (st2 (tX7 (st2 (tX5 (τ) (1)) (0) 0) (3)) (0) 1) (15)) (0) 2) (28)) (0) 3) (33)) (0) 4) (38)) (0) 5) (43)) (0) 6)) (0) 7) (130)) (0) 8) (134)) (0) 9) (0) 10) (145)) (144) 0) (162)) (144) 1) (179)) (144) 2) (196)) (144) 3) (0) 11) (214)) (213) 0) (219)) (213) 1) (224)) (213) 2) (229)) (213) 3) := hF57.st (by omega)
  have hF59 : Fr (1 + 234) (sX9 (σ) (130)) (st2 (tX4 (st2 (tX4 (st2 (tX4 (st2 (tX4 (st2 (st2 (tX1 (st2 (tX1 (st2 (tX1 (st2 (tX1 (st2 (st2 (tX6 (st2 (tX9 (st2 (tX2 (st2 (tX4 (st2 (tX4 (st2 (tX3 (st2 (tX3 (st2 (tX8 (st2 (tX7 (st2 (tX5 (τ) (1)) (0) 0) (3)) (0) 1) (15)) (0) 2) (28)) (0) 3) (33)) (0) 4) (38)) (0) 5) (43)) (0) 6)) (0) 7) (130)) (0) 8) (134)) (0) 9) (0) 10) (145)) (144) 0) (162)) (144) 1) (179)) (144) 2) (196)) (144) 3) (0) 11) (214)) (213) 0) (219)) (213) 1) (224)) (213) 2) (229)) (213) 3) := hF58.mono (by omega)
  have hF60 : Fr (1 + 238) (sX9 (σ) (130)) (tX4 (st2 (tX4 (st2 (tX4 (st2 (tX4 (st2 (tX4 (st2 (st2 (tX1 (st2 (tX1 (st2 (tX1 (st2 (tX1 (st2 (st2 (tX6 (st2 (tX9 (st2 (tX2 (st2 (tX4 (st2 (tX4 (st2 (tX3 (st2 (tX3 (st2 (tX8 (st2 (tX7 (st2 (tX5 (τ) (1)) (0) 0) (3)) (0) 1) (15)) (0) 2) (28)) (0) 3) (33)) (0) 4) (38)) (0) 5) (43)) (0) 6)) (0) 7) (130)) (0) 8) (134)) (0) 9) (0) 10) (145)) (144) 0) (162)) (144) 1) (179)) (144) 2) (196)) (144) 3) (0) 11) (214)) (213) 0) (219)) (213) 1) (224)) (213) 2) (229)) (213) 3) (234)) := frX4 hF59
  have hF61 : Fr (1 + 238) (sX9 (σ) (130)) (st2 (tX4 (st2 (tX4 (st2 (tX4 (st2 (tX4 (st2 (tX4 (st2 (st2 (tX1 (st2 (tX1 (st2 (tX1 (st2 (tX1 (st2 (st2 (tX6 (st2 (tX9 (st2 (tX2 (st2 (tX4 (st2 (tX4 (st2 (tX3 (st2 (tX3 (st2 (tX8 (st2 (tX7 (st2 (tX5 (τ) (1)) (0) 0) (3)) (0) 1) (15)) (0) 2) (28)) (0) 3) (33)) (0) 4) (38)) (0) 5) (43)) (0) 6)) (0) 7) (130)) (0) 8) (134)) (0) 9) (0) 10) (145)) (144) 0) (162)) (144) 1) (179)) (144) 2) (196)) (144) 3) (0) 11) (214)) (213) 0) (219)) (213) 1) (224)) (213) 2) (229)) (213) 3) (234)) (213) 4) := hF60.st (by omega)
  have hF62 : Fr (1 + 239) (sX9 (σ) (130)) (st2 (tX4 (st2 (tX4 (st2 (tX4 (st2 (tX4 (st2 (tX4 (st2 (st2 (tX1 (st2 (tX1 (st2 (tX1 (st2 (tX1 (st2 (st2 (tX6 (st2 (tX9 (st2 (tX2 (st2 (tX4 (st2 (tX4 (st2 (tX3 (st2 (tX3 (st2 (tX8 (st2 (tX7 (st2 (tX5 (τ) (1)) (0) 0) (3)) (0) 1) (15)) (0) 2) (28)) (0) 3) (33)) (0) 4) (38)) (0) 5) (43)) (0) 6)) (0) 7) (130)) (0) 8) (134)) (0) 9) (0) 10) (145)) (144) 0) (162)) (144) 1) (179)) (144) 2) (196)) (144) 3) (0) 11) (214)) (213) 0) (219)) (213) 1) (224)) (213) 2) (229)) (213) 3) (234)) (213) 4) := hF61.mono (by omega)
  have hF63 : Fr (1 + 243) (sX9 (σ) (130)) (tX4 (st2 (tX4 (st2 (tX4 (st2 (tX4 (st2 (tX4 (st2 (tX4 (st2 (st2 (tX1 (st2 (tX1 (st2 (tX1 (st2 (tX1 (st2 (st2 (tX6 (st2 (tX9 (st2 (tX2 (st2 (tX4 (st2 (tX4 (st2 (tX3 (st2 (tX3 (st2 (tX8 (st2 (tX7 (st2 (tX5 (τ) (1)) (0) 0) (3)) (0) 1) (15)) (0) 2) (28)) (0) 3) (33)) (0) 4) (38)) (0) 5) (43)) (0) 6)) (0) 7) (130)) (0) 8) (134)) (0) 9) (0) 10) (145)) (144) 0) (162)) (144) 1) (179)) (144) 2) (196)) (144) 3) (0) 11) (214)) (213) 0) (219)) (213) 1) (224)) (213) 2) (229)) (213) 3) (234)) (213) 4) (239)) := frX4 hF62
  have hF64 : Fr (1 + 243) (sX9 (σ) (130)) (st2 (tX4 (st2 (tX4 (st2 (tX4 (st2 (tX4 (st2 (tX4 (st2 (tX4 (st2 (st2 (tX1 (st2 (tX1 (st2 (tX1 (st2 (tX1 (st2 (st2 (tX6 (st2 (tX9 (st2 (tX2 (st2 (tX4 (st2 (tX4 (st2 (tX3 (st2 (tX3 (st2 (tX8 (st2 (tX7 (st2 (tX5 (τ) (1)) (0) 0) (3)) (0) 1) (15)) (0) 2) (28)) (0) 3) (33)) (0) 4) (38)) (0) 5) (43)) (0) 6)) (0) 7) (130)) (0) 8) (134)) (0) 9) (0) 10) (145)) (144) 0) (162)) (144) 1) (179)) (144) 2) (196)) (144) 3) (0) 11) (214)) (213) 0) (219)) (213) 1) (224)) (213) 2) (229)) (213) 3) (234)) (213) 4) (239)) (213) 5) := hF63.st (by omega)
  have hF65 : Fr (1 + 244) (sX9 (σ) (130)) (st2 (tX4 (st2 (tX4 (st2 (tX4 (st2 (tX4 (st2 (tX4 (st2 (tX4 (st2 (st2 (tX1 (st2 (tX1 (st2 (tX1 (st2 (tX1 (st2 (st2 (tX6 (st2 (tX9 (st2 (tX2 (st2 (tX4 (st2 (tX4 (st2 (tX3 (st2 (tX3 (st2 (tX8 (st2 (tX7 (st2 (tX5 (τ) (1)) (0) 0) (3)) (0) 1) (15)) (0) 2) (28)) (0) 3) (33)) (0) 4) (38)) (0) 5) (43)) (0) 6)) (0) 7) (130)) (0) 8) (134)) (0) 9) (0) 10) (145)) (144) 0) (162)) (144) 1) (179)) (144) 2) (196)) (144) 3) (0) 11) (214)) (213) 0) (219)) (213) 1) (224)) (213) 2) (229)) (213) 3) (234)) (213) 4) (239)) (213) 5) := hF64.mono (by omega)
  have hF66 : Fr (1 + 248) (sX9 (σ) (130)) (tX4 (st2 (tX4 (st2 (tX4 (st2 (tX4 (st2 (tX4 (st2 (tX4 (st2 (tX4 (st2 (st2 (tX1 (st2 (tX1 (st2 (tX1 (st2 (tX1 (st2 (st2 (tX6 (st2 (tX9 (st2 (tX2 (st2 (tX4 (st2 (tX4 (st2 (tX3 (st2 (tX3 (st2 (tX8 (st2 (tX7 (st2 (tX5 (τ) (1)) (0) 0) (3)) (0) 1) (15)) (0) 2) (28)) (0) 3) (33)) (0) 4) (38)) (0) 5) (43)) (0) 6)) (0) 7) (130)) (0) 8) (134)) (0) 9) (0) 10) (145)) (144) 0) (162)) (144) 1) (179)) (144) 2) (196)) (144) 3) (0) 11) (214)) (213) 0) (219)) (213) 1) (224)) (213) 2) (229)) (213) 3) (234)) (213) 4) (239)) (213) 5) (244)) := frX4 hF65
  have hF67 : Fr (1 + 248) (sX9 (σ) (130)) (st2 (tX4 (st2 (tX4 (st2 (tX4 (st2 (tX4 (st2 (tX4 (st2 (tX4 (st2 (tX4 (st2 (st2 (tX1 (st2 (tX1 (st2 (tX1 (st2 (tX1 (st2 (st2 (tX6 (st2 (tX9 (st2 (tX2 (st2 (tX4 (st2 (tX4 (st2 (tX3 (st2 (tX3 (st2 (tX8 (st2 (tX7 (st2 (tX5 (τ) (1)) (0) 0) (3)) (0) 1) (15)) (0) 2) (28)) (0) 3) (33)) (0) 4) (38)) (0) 5) (43)) (0) 6)) (0) 7) (130)) (0) 8) (134)) (0) 9) (0) 10) (145)) (144) 0) (162)) (144) 1) (179)) (144) 2) (196)) (144) 3) (0) 11) (214)) (213) 0) (219)) (213) 1) (224)) (213) 2) (229)) (213) 3) (234)) (213) 4) (239)) (213) 5) (244)) (213) 6) := hF66.st (by omega)
  exact hF67
set_option maxHeartbeats 4000000 in
set_option maxRecDepth 100000 in
theorem IX11 {l : Launch} {K : KK} {σ : MM} {τ : TT} (hF : Fr (1) σ τ) : CI l K (1) 248 4707 4 mX11_init [.ref (K.2.1 + 0)] σ τ (sX11 σ) (tX11 τ) := by
  refine CI.of (by decide +kernel) rfl (Nat.le_of_ble_eq_true rfl) ?_
  show RN l K (1) 4 248 4707 mX11_init _ 0 [(0, .ref (K.2.1 + 0))] [] 0 0 σ τ
  refine rn_aload_n 0 dX11_init_0 rfl ?_
  refine rn_obj (mw (i := 32) (by decide +kernel)) (mw (i := 33) (by decide +kernel)) (mw (i := 34) (by decide +kernel)) (by decide) (by decide) dX11_init_1 ?_
  refine rn_aload_n 0 dX11_init_4 rfl ?_
  refine rn_new (ci := 5) (N := 9) kcX5 (by decide) (by decide) (mw (i := 35) (by decide +kernel)) (by decide +kernel) hF (by decide) (by decide) dX11_init_5 ?_
  have hF1 : Fr (1 + 1) (σ) (τ) := hF.mono (by omega)
  refine rn_dup dX11_init_8 rfl ?_
  refine rn_callN (b := 1) (mc := 1) (ms := 1000) (d' := 1) [] (IX5 (a := 1) (show okX5 1 by decide +kernel) hF1) ccX5_init imX5_init rfl (by decide) (by decide) rfl rfl (Nat.le_of_ble_eq_true rfl) dX11_init_9 (by decide) (by decide) ?_
  have hF2 : Fr (1 + 2) (σ) (tX5 (τ) (1)) := frX5 hF1
  refine rn_putF fi_X11_10 ffX11_0 rfl (by decide +kernel) (by decide) (by omega) (by decide) (by rw [(show rf 0 0 = 1 by decide +kernel)]) dX11_init_12 ?_
  have hF3 : Fr (1 + 2) (σ) (st2 (tX5 (τ) (1)) (0) 0) := hF2.st (by omega)
  refine rn_aload_n 0 dX11_init_15 rfl ?_
  refine rn_new (ci := 7) (N := 12) kcX7 (by decide) (by decide) (mw (i := 80) (by decide +kernel)) (by decide +kernel) hF3 (by decide) (by decide) dX11_init_16 ?_
  have hF4 : Fr (1 + 3) (σ) (st2 (tX5 (τ) (1)) (0) 0) := hF3.mono (by omega)
  refine rn_dup dX11_init_19 rfl ?_
  refine rn_callN (b := 3) (mc := 11) (ms := 1068) (d' := 2) [] (IX7 (a := 3) (show okX7 3 by decide +kernel) hF4) ccX7_init imX7_init rfl (by decide) (by decide) rfl rfl (Nat.le_of_ble_eq_true rfl) dX11_init_20 (by decide) (by decide) ?_
  have hF5 : Fr (1 + 14) (σ) (tX7 (st2 (tX5 (τ) (1)) (0) 0) (3)) := frX7 hF4
  refine rn_putF fi_X11_19 ffX11_1 rfl (by decide +kernel) (by decide) (by omega) (by decide) (by rw [(show rf 0 1 = 3 by decide +kernel)]) dX11_init_23 ?_
  have hF6 : Fr (1 + 14) (σ) (st2 (tX7 (st2 (tX5 (τ) (1)) (0) 0) (3)) (0) 1) := hF5.st (by omega)
  refine rn_aload_n 0 dX11_init_26 rfl ?_
  refine rn_new (ci := 8) (N := 3) kcX8 (by decide) (by decide) (mw (i := 176) (by decide +kernel)) (by decide +kernel) hF6 (by decide) (by decide) dX11_init_27 ?_
  have hF7 : Fr (1 + 15) (σ) (st2 (tX7 (st2 (tX5 (τ) (1)) (0) 0) (3)) (0) 1) := hF6.mono (by omega)
  refine rn_dup dX11_init_30 rfl ?_
  refine rn_aload_n 0 dX11_init_31 rfl ?_
  refine rn_getR fi_X11_10 (by decide +kernel) (by decide) (by omega) (by decide) (by rfl) dX11_init_32 ?_
  rw [(show rf 0 0 = 1 by decide +kernel)]
  refine rn_call (b := 15) (mc := 12) (ms := 1080) (d' := 3) [.ref (K.2.1 + 1)] (IX8 (a := 15) (p := 1) (show okX8 15 1 by decide +kernel) hF7) ccX8_init imX8_init rfl (mw (i := 178) (by decide +kernel)) (by decide) rfl rfl (Nat.le_of_ble_eq_true rfl) dX11_init_35 (by decide) (by decide) ?_
  have hF8 : Fr (1 + 27) (σ) (tX8 (st2 (tX7 (st2 (tX5 (τ) (1)) (0) 0) (3)) (0) 1) (15)) := frX8 hF7
  refine rn_putF fi_X11_28 ffX11_2 rfl (by decide +kernel) (by decide) (by omega) (by decide) (by rw [(show rf 0 2 = 15 by decide +kernel)]) dX11_init_38 ?_
  have hF9 : Fr (1 + 27) (σ) (st2 (tX8 (st2 (tX7 (st2 (tX5 (τ) (1)) (0) 0) (3)) (0) 1) (15)) (0) 2) := hF8.st (by omega)
  refine rn_aload_n 0 dX11_init_41 rfl ?_
  refine rn_new (ci := 3) (N := 7) kcX3 (by decide) (by decide) (mw (i := 195) (by decide +kernel)) (by decide +kernel) hF9 (by decide) (by decide) dX11_init_42 ?_
  have hF10 : Fr (1 + 28) (σ) (st2 (tX8 (st2 (tX7 (st2 (tX5 (τ) (1)) (0) 0) (3)) (0) 1) (15)) (0) 2) := hF9.mono (by omega)
  refine rn_dup dX11_init_45 rfl ?_
  refine rn_callN (b := 28) (mc := 4) (ms := 160) (d' := 1) [] (IX3 (a := 28) (show okX3 28 by decide +kernel) hF10) ccX3_init imX3_init rfl (by decide) (by decide) rfl rfl (Nat.le_of_ble_eq_true rfl) dX11_init_46 (by decide) (by decide) ?_
  have hF11 : Fr (1 + 32) (σ) (tX3 (st2 (tX8 (st2 (tX7 (st2 (tX5 (τ) (1)) (0) 0) (3)) (0) 1) (15)) (0) 2) (28)) := frX3 hF10
  refine rn_putF fi_X11_35 ffX11_3 rfl (by decide +kernel) (by decide) (by omega) (by decide) (by rw [(show rf 0 3 = 28 by decide +kernel)]) dX11_init_49 ?_
  have hF12 : Fr (1 + 32) (σ) (st2 (tX3 (st2 (tX8 (st2 (tX7 (st2 (tX5 (τ) (1)) (0) 0) (3)) (0) 1) (15)) (0) 2) (28)) (0) 3) := hF11.st (by omega)
  refine rn_aload_n 0 dX11_init_52 rfl ?_
  refine rn_new (ci := 3) (N := 7) kcX3 (by decide) (by decide) (mw (i := 195) (by decide +kernel)) (by decide +kernel) hF12 (by decide) (by decide) dX11_init_53 ?_
  have hF13 : Fr (1 + 33) (σ) (st2 (tX3 (st2 (tX8 (st2 (tX7 (st2 (tX5 (τ) (1)) (0) 0) (3)) (0) 1) (15)) (0) 2) (28)) (0) 3) := hF12.mono (by omega)
  refine rn_dup dX11_init_56 rfl ?_
  refine rn_callN (b := 33) (mc := 4) (ms := 160) (d' := 1) [] (IX3 (a := 33) (show okX3 33 by decide +kernel) hF13) ccX3_init imX3_init rfl (by decide) (by decide) rfl rfl (Nat.le_of_ble_eq_true rfl) dX11_init_57 (by decide) (by decide) ?_
  have hF14 : Fr (1 + 37) (σ) (tX3 (st2 (tX3 (st2 (tX8 (st2 (tX7 (st2 (tX5 (τ) (1)) (0) 0) (3)) (0) 1) (15)) (0) 2) (28)) (0) 3) (33)) := frX3 hF13
  refine rn_putF fi_X11_39 ffX11_4 rfl (by decide +kernel) (by decide) (by omega) (by decide) (by rw [(show rf 0 4 = 33 by decide +kernel)]) dX11_init_60 ?_
  have hF15 : Fr (1 + 37) (σ) (st2 (tX3 (st2 (tX3 (st2 (tX8 (st2 (tX7 (st2 (tX5 (τ) (1)) (0) 0) (3)) (0) 1) (15)) (0) 2) (28)) (0) 3) (33)) (0) 4) := hF14.st (by omega)
  refine rn_aload_n 0 dX11_init_63 rfl ?_
  refine rn_new (ci := 4) (N := 7) kcX4 (by decide) (by decide) (mw (i := 226) (by decide +kernel)) (by decide +kernel) hF15 (by decide) (by decide) dX11_init_64 ?_
  have hF16 : Fr (1 + 38) (σ) (st2 (tX3 (st2 (tX3 (st2 (tX8 (st2 (tX7 (st2 (tX5 (τ) (1)) (0) 0) (3)) (0) 1) (15)) (0) 2) (28)) (0) 3) (33)) (0) 4) := hF15.mono (by omega)
  refine rn_dup dX11_init_67 rfl ?_
  refine rn_aload_n 0 dX11_init_68 rfl ?_
  refine rn_getR fi_X11_19 (by decide +kernel) (by decide) (by omega) (by decide) (by rfl) dX11_init_69 ?_
  rw [(show rf 0 1 = 3 by decide +kernel)]
  refine rn_call (b := 38) (mc := 4) (ms := 22) (d' := 1) [.ref (K.2.1 + 3)] (IX4 (a := 38) (p := 3) (show okX4 38 3 by decide +kernel) hF16) ccX4_init imX4_init rfl (mw (i := 228) (by decide +kernel)) (by decide) rfl rfl (Nat.le_of_ble_eq_true rfl) dX11_init_72 (by decide) (by decide) ?_
  have hF17 : Fr (1 + 42) (σ) (tX4 (st2 (tX3 (st2 (tX3 (st2 (tX8 (st2 (tX7 (st2 (tX5 (τ) (1)) (0) 0) (3)) (0) 1) (15)) (0) 2) (28)) (0) 3) (33)) (0) 4) (38)) := frX4 hF16
  refine rn_putF fi_X11_47 ffX11_5 rfl (by decide +kernel) (by decide) (by omega) (by decide) (by rw [(show rf 0 5 = 38 by decide +kernel)]) dX11_init_75 ?_
  have hF18 : Fr (1 + 42) (σ) (st2 (tX4 (st2 (tX3 (st2 (tX3 (st2 (tX8 (st2 (tX7 (st2 (tX5 (τ) (1)) (0) 0) (3)) (0) 1) (15)) (0) 2) (28)) (0) 3) (33)) (0) 4) (38)) (0) 5) := hF17.st (by omega)
  refine rn_aload_n 0 dX11_init_78 rfl ?_
  refine rn_new (ci := 4) (N := 7) kcX4 (by decide) (by decide) (mw (i := 226) (by decide +kernel)) (by decide +kernel) hF18 (by decide) (by decide) dX11_init_79 ?_
  have hF19 : Fr (1 + 43) (σ) (st2 (tX4 (st2 (tX3 (st2 (tX3 (st2 (tX8 (st2 (tX7 (st2 (tX5 (τ) (1)) (0) 0) (3)) (0) 1) (15)) (0) 2) (28)) (0) 3) (33)) (0) 4) (38)) (0) 5) := hF18.mono (by omega)
  refine rn_dup dX11_init_82 rfl ?_
  refine rn_aload_n 0 dX11_init_83 rfl ?_
  refine rn_getR fi_X11_19 (by decide +kernel) (by decide) (by omega) (by decide) (by rfl) dX11_init_84 ?_
  rw [(show rf 0 1 = 3 by decide +kernel)]
  refine rn_call (b := 43) (mc := 4) (ms := 22) (d' := 1) [.ref (K.2.1 + 3)] (IX4 (a := 43) (p := 3) (show okX4 43 3 by decide +kernel) hF19) ccX4_init imX4_init rfl (mw (i := 228) (by decide +kernel)) (by decide) rfl rfl (Nat.le_of_ble_eq_true rfl) dX11_init_87 (by decide) (by decide) ?_
  have hF20 : Fr (1 + 47) (σ) (tX4 (st2 (tX4 (st2 (tX3 (st2 (tX3 (st2 (tX8 (st2 (tX7 (st2 (tX5 (τ) (1)) (0) 0) (3)) (0) 1) (15)) (0) 2) (28)) (0) 3) (33)) (0) 4) (38)) (0) 5) (43)) := frX4 hF19
  refine rn_putF fi_X11_51 ffX11_6 rfl (by decide +kernel) (by decide) (by omega) (by decide) (by rw [(show rf 0 6 = 43 by decide +kernel)]) dX11_init_90 ?_
  have hF21 : Fr (1 + 47) (σ) (st2 (tX4 (st2 (tX4 (st2 (tX3 (st2 (tX3 (st2 (tX8 (st2 (tX7 (st2 (tX5 (τ) (1)) (0) 0) (3)) (0) 1) (15)) (0) 2) (28)) (0) 3) (33)) (0) 4) (38)) (0) 5) (43)) (0) 6) := hF20.st (by omega)
  refine rn_aload_n 0 dX11_init_93 rfl ?_
  refine rn_new (ci := 2) (N := 3) kcX2 (by decide) (by decide) (mw (i := 263) (by decide +kernel)) (by decide +kernel) hF21 (by decide) (by decide) dX11_init_94 ?_
  have hF22 : Fr (1 + 48) (σ) (st2 (tX4 (st2 (tX4 (st2 (tX3 (st2 (tX3 (st2 (tX8 (st2 (tX7 (st2 (tX5 (τ) (1)) (0) 0) (3)) (0) 1) (15)) (0) 2) (28)) (0) 3) (33)) (0) 4) (38)) (0) 5) (43)) (0) 6) := hF21.mono (by omega)
  refine rn_dup dX11_init_97 rfl ?_
  refine rn_aload_n 0 dX11_init_98 rfl ?_
  refine rn_getR fi_X11_19 (by decide +kernel) (by decide) (by omega) (by decide) (by rfl) dX11_init_99 ?_
  rw [(show rf 0 1 = 3 by decide +kernel)]
  refine rn_call (b := 48) (mc := 81) (ms := 480) (d' := 2) [.ref (K.2.1 + 3)] (IX2 hF22) ccX2_init imX2_init rfl (mw (i := 265) (by decide +kernel)) (by decide) rfl rfl (Nat.le_of_ble_eq_true rfl) dX11_init_102 (by decide) (by decide) ?_
  have hF23 : Fr (1 + 129) (σ) (tX2 (st2 (tX4 (st2 (tX4 (st2 (tX3 (st2 (tX3 (st2 (tX8 (st2 (tX7 (st2 (tX5 (τ) (1)) (0) 0) (3)) (0) 1) (15)) (0) 2) (28)) (0) 3) (33)) (0) 4) (38)) (0) 5) (43)) (0) 6)) := frX2 hF22
  refine rn_putF fi_X11_57 ffX11_7 rfl (by decide +kernel) (by decide) (by omega) (by decide) (by rw [(show rf 0 7 = 48 by decide +kernel)]) dX11_init_105 ?_
  have hF24 : Fr (1 + 129) (σ) (st2 (tX2 (st2 (tX4 (st2 (tX4 (st2 (tX3 (st2 (tX3 (st2 (tX8 (st2 (tX7 (st2 (tX5 (τ) (1)) (0) 0) (3)) (0) 1) (15)) (0) 2) (28)) (0) 3) (33)) (0) 4) (38)) (0) 5) (43)) (0) 6)) (0) 7) := hF23.st (by omega)
  refine rn_aload_n 0 dX11_init_108 rfl ?_
  refine rn_new (ci := 9) (N := 4) kcX9 (by decide) (by decide) (mw (i := 283) (by decide +kernel)) (by decide +kernel) hF24 (by decide) (by decide) dX11_init_109 ?_
  have hF25 : Fr (1 + 130) (σ) (st2 (tX2 (st2 (tX4 (st2 (tX4 (st2 (tX3 (st2 (tX3 (st2 (tX8 (st2 (tX7 (st2 (tX5 (τ) (1)) (0) 0) (3)) (0) 1) (15)) (0) 2) (28)) (0) 3) (33)) (0) 4) (38)) (0) 5) (43)) (0) 6)) (0) 7) := hF24.mono (by omega)
  refine rn_dup dX11_init_112 rfl ?_
  refine rn_aload_n 0 dX11_init_113 rfl ?_
  refine rn_getR fi_X11_51 (by decide +kernel) (by decide) (by omega) (by decide) (by rfl) dX11_init_114 ?_
  rw [(show rf 0 6 = 43 by decide +kernel)]
  refine rn_call (b := 130) (mc := 3) (ms := 14) (d' := 1) [.ref (K.2.1 + 43)] (IX9 (a := 130) (p := 43) (show okX9 130 43 by decide +kernel) hF25) ccX9_init imX9_init rfl (mw (i := 285) (by decide +kernel)) (by decide) rfl rfl (Nat.le_of_ble_eq_true rfl) dX11_init_117 (by decide) (by decide) ?_
  have hF26 : Fr (1 + 133) (sX9 (σ) (130)) (tX9 (st2 (tX2 (st2 (tX4 (st2 (tX4 (st2 (tX3 (st2 (tX3 (st2 (tX8 (st2 (tX7 (st2 (tX5 (τ) (1)) (0) 0) (3)) (0) 1) (15)) (0) 2) (28)) (0) 3) (33)) (0) 4) (38)) (0) 5) (43)) (0) 6)) (0) 7) (130)) := frX9 hF25
  refine rn_putF fi_X11_66 ffX11_8 rfl (by decide +kernel) (by decide) (by omega) (by decide) (by rw [(show rf 0 8 = 130 by decide +kernel)]) dX11_init_120 ?_
  have hF27 : Fr (1 + 133) (sX9 (σ) (130)) (st2 (tX9 (st2 (tX2 (st2 (tX4 (st2 (tX4 (st2 (tX3 (st2 (tX3 (st2 (tX8 (st2 (tX7 (st2 (tX5 (τ) (1)) (0) 0) (3)) (0) 1) (15)) (0) 2) (28)) (0) 3) (33)) (0) 4) (38)) (0) 5) (43)) (0) 6)) (0) 7) (130)) (0) 8) := hF26.st (by omega)
  refine rn_aload_n 0 dX11_init_123 rfl ?_
  refine rn_new (ci := 6) (N := 10) kcX6 (by decide) (by decide) (mw (i := 305) (by decide +kernel)) (by decide +kernel) hF27 (by decide) (by decide) dX11_init_124 ?_
  have hF28 : Fr (1 + 134) (sX9 (σ) (130)) (st2 (tX9 (st2 (tX2 (st2 (tX4 (st2 (tX4 (st2 (tX3 (st2 (tX3 (st2 (tX8 (st2 (tX7 (st2 (tX5 (τ) (1)) (0) 0) (3)) (0) 1) (15)) (0) 2) (28)) (0) 3) (33)) (0) 4) (38)) (0) 5) (43)) (0) 6)) (0) 7) (130)) (0) 8) := hF27.mono (by omega)
  refine rn_dup dX11_init_127 rfl ?_
  refine rn_aload_n 0 dX11_init_128 rfl ?_
  refine rn_getR fi_X11_51 (by decide +kernel) (by decide) (by omega) (by decide) (by rfl) dX11_init_129 ?_
  rw [(show rf 0 6 = 43 by decide +kernel)]
  refine rn_call (b := 134) (mc := 9) (ms := 46) (d' := 1) [.ref (K.2.1 + 43)] (IX6 (a := 134) (p := 43) (show okX6 134 43 by decide +kernel) hF28) ccX6_init imX6_init rfl (mw (i := 307) (by decide +kernel)) (by decide) rfl rfl (Nat.le_of_ble_eq_true rfl) dX11_init_132 (by decide) (by decide) ?_
  have hF29 : Fr (1 + 143) (sX9 (σ) (130)) (tX6 (st2 (tX9 (st2 (tX2 (st2 (tX4 (st2 (tX4 (st2 (tX3 (st2 (tX3 (st2 (tX8 (st2 (tX7 (st2 (tX5 (τ) (1)) (0) 0) (3)) (0) 1) (15)) (0) 2) (28)) (0) 3) (33)) (0) 4) (38)) (0) 5) (43)) (0) 6)) (0) 7) (130)) (0) 8) (134)) := frX6 hF28
  refine rn_putF fi_X11_73 ffX11_9 rfl (by decide +kernel) (by decide) (by omega) (by decide) (by rw [(show rf 0 9 = 134 by decide +kernel)]) dX11_init_135 ?_
  have hF30 : Fr (1 + 143) (sX9 (σ) (130)) (st2 (tX6 (st2 (tX9 (st2 (tX2 (st2 (tX4 (st2 (tX4 (st2 (tX3 (st2 (tX3 (st2 (tX8 (st2 (tX7 (st2 (tX5 (τ) (1)) (0) 0) (3)) (0) 1) (15)) (0) 2) (28)) (0) 3) (33)) (0) 4) (38)) (0) 5) (43)) (0) 6)) (0) 7) (130)) (0) 8) (134)) (0) 9) := hF29.st (by omega)
  refine rn_aload_n 0 dX11_init_138 rfl ?_
  refine rn_iconst (nI 4) dX11_init_139 (by decide) ?_
  refine rn_newq (t := 5) (N := 4) (C := "LaundrySky$Mark") rfl (by decide) (mw (i := 348) (by decide +kernel)) (fun U h => h.2.1) (by decide +kernel) hF30 (by decide) (by decide) (by decide) (by decide) (by decide) dX11_init_140 ?_
  have hF31 : Fr (1 + 144) (sX9 (σ) (130)) (st2 (tX6 (st2 (tX9 (st2 (tX2 (st2 (tX4 (st2 (tX4 (st2 (tX3 (st2 (tX3 (st2 (tX8 (st2 (tX7 (st2 (tX5 (τ) (1)) (0) 0) (3)) (0) 1) (15)) (0) 2) (28)) (0) 3) (33)) (0) 4) (38)) (0) 5) (43)) (0) 6)) (0) 7) (130)) (0) 8) (134)) (0) 9) := hF30.mono (by omega)
  refine rn_putF fi_X11_79 ffX11_10 rfl (by decide +kernel) (by decide) (by omega) (by decide) (by rw [(show rf 0 10 = 144 by decide +kernel)]) dX11_init_143 ?_
  have hF32 : Fr (1 + 144) (sX9 (σ) (130)) (st2 (st2 (tX6 (st2 (tX9 (st2 (tX2 (st2 (tX4 (st2 (tX4 (st2 (tX3 (st2 (tX3 (st2 (tX8 (st2 (tX7 (st2 (tX5 (τ) (1)) (0) 0) (3)) (0) 1) (15)) (0) 2) (28)) (0) 3) (33)) (0) 4) (38)) (0) 5) (43)) (0) 6)) (0) 7) (130)) (0) 8) (134)) (0) 9) (0) 10) := hF31.st (by omega)
  refine rn_iconst (nI 0) dX11_init_146 (by decide) ?_
  refine rn_istore_n [(1, .int (nI 0)), (0, .ref (K.2.1 + 0))] dX11_init_147 (by decide) rfl ?_
  refine rn_iload_n 0 dX11_init_148 rfl ?_
  refine rn_aload_n 1 dX11_init_149 rfl ?_
  refine rn_getR fi_X11_79 (by decide +kernel) (by decide) (by omega) (by decide) (by rfl) dX11_init_150 ?_
  rw [(show rf 0 10 = 144 by decide +kernel)]
  refine rn_alen (t := 5) (N := 4) (v := nI 4) rfl (by decide) (by decide +kernel) (by omega) (by decide) dX11_init_153 ?_
  refine rn_ge_f 180 (by decide) dX11_init_154 (by decide) ?_
  refine rn_aload_n 1 dX11_init_157 rfl ?_
  refine rn_getR fi_X11_79 (by decide +kernel) (by decide) (by omega) (by decide) (by rfl) dX11_init_158 ?_
  rw [(show rf 0 10 = 144 by decide +kernel)]
  refine rn_iload_n 0 dX11_init_161 rfl ?_
  refine rn_new (ci := 1) (N := 4) kcX1 (by decide) (by decide) (mw (i := 348) (by decide +kernel)) (by decide +kernel) hF32 (by decide) (by decide) dX11_init_162 ?_
  have hF33 : Fr (1 + 145) (sX9 (σ) (130)) (st2 (st2 (tX6 (st2 (tX9 (st2 (tX2 (st2 (tX4 (st2 (tX4 (st2 (tX3 (st2 (tX3 (st2 (tX8 (st2 (tX7 (st2 (tX5 (τ) (1)) (0) 0) (3)) (0) 1) (15)) (0) 2) (28)) (0) 3) (33)) (0) 4) (38)) (0) 5) (43)) (0) 6)) (0) 7) (130)) (0) 8) (134)) (0) 9) (0) 10) := hF32.mono (by omega)
  refine rn_dup dX11_init_165 rfl ?_
  refine rn_aload_n 1 dX11_init_166 rfl ?_
  refine rn_getR fi_X11_19 (by decide +kernel) (by decide) (by omega) (by decide) (by rfl) dX11_init_167 ?_
  rw [(show rf 0 1 = 3 by decide +kernel)]
  refine rn_call (b := 145) (mc := 16) (ms := 89) (d' := 2) [.ref (K.2.1 + 3)] (IX1 (a := 145) (p := 3) (show okX1 145 3 by decide +kernel) hF33) ccX1_init imX1_init rfl (mw (i := 351) (by decide +kernel)) (by decide) rfl rfl (Nat.le_of_ble_eq_true rfl) dX11_init_170 (by decide) (by decide) ?_
  have hF34 : Fr (1 + 161) (sX9 (σ) (130)) (tX1 (st2 (st2 (tX6 (st2 (tX9 (st2 (tX2 (st2 (tX4 (st2 (tX4 (st2 (tX3 (st2 (tX3 (st2 (tX8 (st2 (tX7 (st2 (tX5 (τ) (1)) (0) 0) (3)) (0) 1) (15)) (0) 2) (28)) (0) 3) (33)) (0) 4) (38)) (0) 5) (43)) (0) 6)) (0) 7) (130)) (0) 8) (134)) (0) 9) (0) 10) (145)) := frX1 hF33
  refine rn_aast (t := 5) (N := 4) (a := 144) (v := 145) (ci := 1) (i := 0) rfl (by decide) (by decide +kernel) (by decide +kernel) (by decide) rfl (by omega) (by omega) (show rf 144 0 = 145 by decide +kernel) (by decide) (by decide) dX11_init_173 ?_
  have hF35 : Fr (1 + 161) (sX9 (σ) (130)) (st2 (tX1 (st2 (st2 (tX6 (st2 (tX9 (st2 (tX2 (st2 (tX4 (st2 (tX4 (st2 (tX3 (st2 (tX3 (st2 (tX8 (st2 (tX7 (st2 (tX5 (τ) (1)) (0) 0) (3)) (0) 1) (15)) (0) 2) (28)) (0) 3) (33)) (0) 4) (38)) (0) 5) (43)) (0) 6)) (0) 7) (130)) (0) 8) (134)) (0) 9) (0) 10) (145)) (144) 0) := hF34.st (by omega)
  refine rn_iinc (x2 := nI 1) [(1, .int (nI 1)), (0, .ref (K.2.1 + 0))] 0 dX11_init_174 rfl (by decide) (by decide) rfl ?_
  refine rn_goto 148 dX11_init_177 (by decide) ?_
  refine rn_iload_n 0 dX11_init_148 rfl ?_
  refine rn_aload_n 1 dX11_init_149 rfl ?_
  refine rn_getR fi_X11_79 (by decide +kernel) (by decide) (by omega) (by decide) (by rfl) dX11_init_150 ?_
  rw [(show rf 0 10 = 144 by decide +kernel)]
  refine rn_alen (t := 5) (N := 4) (v := nI 4) rfl (by decide) (by decide +kernel) (by omega) (by decide) dX11_init_153 ?_
  refine rn_ge_f 180 (by decide) dX11_init_154 (by decide) ?_
  refine rn_aload_n 1 dX11_init_157 rfl ?_
  refine rn_getR fi_X11_79 (by decide +kernel) (by decide) (by omega) (by decide) (by rfl) dX11_init_158 ?_
  rw [(show rf 0 10 = 144 by decide +kernel)]
  refine rn_iload_n 0 dX11_init_161 rfl ?_
  refine rn_new (ci := 1) (N := 4) kcX1 (by decide) (by decide) (mw (i := 348) (by decide +kernel)) (by decide +kernel) hF35 (by decide) (by decide) dX11_init_162 ?_
  have hF36 : Fr (1 + 162) (sX9 (σ) (130)) (st2 (tX1 (st2 (st2 (tX6 (st2 (tX9 (st2 (tX2 (st2 (tX4 (st2 (tX4 (st2 (tX3 (st2 (tX3 (st2 (tX8 (st2 (tX7 (st2 (tX5 (τ) (1)) (0) 0) (3)) (0) 1) (15)) (0) 2) (28)) (0) 3) (33)) (0) 4) (38)) (0) 5) (43)) (0) 6)) (0) 7) (130)) (0) 8) (134)) (0) 9) (0) 10) (145)) (144) 0) := hF35.mono (by omega)
  refine rn_dup dX11_init_165 rfl ?_
  refine rn_aload_n 1 dX11_init_166 rfl ?_
  refine rn_getR fi_X11_19 (by decide +kernel) (by decide) (by omega) (by decide) (by rfl) dX11_init_167 ?_
  rw [(show rf 0 1 = 3 by decide +kernel)]
  refine rn_call (b := 162) (mc := 16) (ms := 89) (d' := 2) [.ref (K.2.1 + 3)] (IX1 (a := 162) (p := 3) (show okX1 162 3 by decide +kernel) hF36) ccX1_init imX1_init rfl (mw (i := 351) (by decide +kernel)) (by decide) rfl rfl (Nat.le_of_ble_eq_true rfl) dX11_init_170 (by decide) (by decide) ?_
  have hF37 : Fr (1 + 178) (sX9 (σ) (130)) (tX1 (st2 (tX1 (st2 (st2 (tX6 (st2 (tX9 (st2 (tX2 (st2 (tX4 (st2 (tX4 (st2 (tX3 (st2 (tX3 (st2 (tX8 (st2 (tX7 (st2 (tX5 (τ) (1)) (0) 0) (3)) (0) 1) (15)) (0) 2) (28)) (0) 3) (33)) (0) 4) (38)) (0) 5) (43)) (0) 6)) (0) 7) (130)) (0) 8) (134)) (0) 9) (0) 10) (145)) (144) 0) (162)) := frX1 hF36
  refine rn_aast (t := 5) (N := 4) (a := 144) (v := 162) (ci := 1) (i := 1) rfl (by decide) (by decide +kernel) (by decide +kernel) (by decide) rfl (by omega) (by omega) (show rf 144 1 = 162 by decide +kernel) (by decide) (by decide) dX11_init_173 ?_
  have hF38 : Fr (1 + 178) (sX9 (σ) (130)) (st2 (tX1 (st2 (tX1 (st2 (st2 (tX6 (st2 (tX9 (st2 (tX2 (st2 (tX4 (st2 (tX4 (st2 (tX3 (st2 (tX3 (st2 (tX8 (st2 (tX7 (st2 (tX5 (τ) (1)) (0) 0) (3)) (0) 1) (15)) (0) 2) (28)) (0) 3) (33)) (0) 4) (38)) (0) 5) (43)) (0) 6)) (0) 7) (130)) (0) 8) (134)) (0) 9) (0) 10) (145)) (144) 0) (162)) (144) 1) := hF37.st (by omega)
  refine rn_iinc (x2 := nI 2) [(1, .int (nI 2)), (0, .ref (K.2.1 + 0))] 0 dX11_init_174 rfl (by decide) (by decide) rfl ?_
  refine rn_goto 148 dX11_init_177 (by decide) ?_
  refine rn_iload_n 0 dX11_init_148 rfl ?_
  refine rn_aload_n 1 dX11_init_149 rfl ?_
  refine rn_getR fi_X11_79 (by decide +kernel) (by decide) (by omega) (by decide) (by rfl) dX11_init_150 ?_
  rw [(show rf 0 10 = 144 by decide +kernel)]
  refine rn_alen (t := 5) (N := 4) (v := nI 4) rfl (by decide) (by decide +kernel) (by omega) (by decide) dX11_init_153 ?_
  refine rn_ge_f 180 (by decide) dX11_init_154 (by decide) ?_
  refine rn_aload_n 1 dX11_init_157 rfl ?_
  refine rn_getR fi_X11_79 (by decide +kernel) (by decide) (by omega) (by decide) (by rfl) dX11_init_158 ?_
  rw [(show rf 0 10 = 144 by decide +kernel)]
  refine rn_iload_n 0 dX11_init_161 rfl ?_
  refine rn_new (ci := 1) (N := 4) kcX1 (by decide) (by decide) (mw (i := 348) (by decide +kernel)) (by decide +kernel) hF38 (by decide) (by decide) dX11_init_162 ?_
  have hF39 : Fr (1 + 179) (sX9 (σ) (130)) (st2 (tX1 (st2 (tX1 (st2 (st2 (tX6 (st2 (tX9 (st2 (tX2 (st2 (tX4 (st2 (tX4 (st2 (tX3 (st2 (tX3 (st2 (tX8 (st2 (tX7 (st2 (tX5 (τ) (1)) (0) 0) (3)) (0) 1) (15)) (0) 2) (28)) (0) 3) (33)) (0) 4) (38)) (0) 5) (43)) (0) 6)) (0) 7) (130)) (0) 8) (134)) (0) 9) (0) 10) (145)) (144) 0) (162)) (144) 1) := hF38.mono (by omega)
  refine rn_dup dX11_init_165 rfl ?_
  refine rn_aload_n 1 dX11_init_166 rfl ?_
  refine rn_getR fi_X11_19 (by decide +kernel) (by decide) (by omega) (by decide) (by rfl) dX11_init_167 ?_
  rw [(show rf 0 1 = 3 by decide +kernel)]
  refine rn_call (b := 179) (mc := 16) (ms := 89) (d' := 2) [.ref (K.2.1 + 3)] (IX1 (a := 179) (p := 3) (show okX1 179 3 by decide +kernel) hF39) ccX1_init imX1_init rfl (mw (i := 351) (by decide +kernel)) (by decide) rfl rfl (Nat.le_of_ble_eq_true rfl) dX11_init_170 (by decide) (by decide) ?_
  have hF40 : Fr (1 + 195) (sX9 (σ) (130)) (tX1 (st2 (tX1 (st2 (tX1 (st2 (st2 (tX6 (st2 (tX9 (st2 (tX2 (st2 (tX4 (st2 (tX4 (st2 (tX3 (st2 (tX3 (st2 (tX8 (st2 (tX7 (st2 (tX5 (τ) (1)) (0) 0) (3)) (0) 1) (15)) (0) 2) (28)) (0) 3) (33)) (0) 4) (38)) (0) 5) (43)) (0) 6)) (0) 7) (130)) (0) 8) (134)) (0) 9) (0) 10) (145)) (144) 0) (162)) (144) 1) (179)) := frX1 hF39
  refine rn_aast (t := 5) (N := 4) (a := 144) (v := 179) (ci := 1) (i := 2) rfl (by decide) (by decide +kernel) (by decide +kernel) (by decide) rfl (by omega) (by omega) (show rf 144 2 = 179 by decide +kernel) (by decide) (by decide) dX11_init_173 ?_
  have hF41 : Fr (1 + 195) (sX9 (σ) (130)) (st2 (tX1 (st2 (tX1 (st2 (tX1 (st2 (st2 (tX6 (st2 (tX9 (st2 (tX2 (st2 (tX4 (st2 (tX4 (st2 (tX3 (st2 (tX3 (st2 (tX8 (st2 (tX7 (st2 (tX5 (τ) (1)) (0) 0) (3)) (0) 1) (15)) (0) 2) (28)) (0) 3) (33)) (0) 4) (38)) (0) 5) (43)) (0) 6)) (0) 7) (130)) (0) 8) (134)) (0) 9) (0) 10) (145)) (144) 0) (162)) (144) 1) (179)) (144) 2) := hF40.st (by omega)
  refine rn_iinc (x2 := nI 3) [(1, .int (nI 3)), (0, .ref (K.2.1 + 0))] 0 dX11_init_174 rfl (by decide) (by decide) rfl ?_
  refine rn_goto 148 dX11_init_177 (by decide) ?_
  refine rn_iload_n 0 dX11_init_148 rfl ?_
  refine rn_aload_n 1 dX11_init_149 rfl ?_
  refine rn_getR fi_X11_79 (by decide +kernel) (by decide) (by omega) (by decide) (by rfl) dX11_init_150 ?_
  rw [(show rf 0 10 = 144 by decide +kernel)]
  refine rn_alen (t := 5) (N := 4) (v := nI 4) rfl (by decide) (by decide +kernel) (by omega) (by decide) dX11_init_153 ?_
  refine rn_ge_f 180 (by decide) dX11_init_154 (by decide) ?_
  refine rn_aload_n 1 dX11_init_157 rfl ?_
  refine rn_getR fi_X11_79 (by decide +kernel) (by decide) (by omega) (by decide) (by rfl) dX11_init_158 ?_
  rw [(show rf 0 10 = 144 by decide +kernel)]
  refine rn_iload_n 0 dX11_init_161 rfl ?_
  refine rn_new (ci := 1) (N := 4) kcX1 (by decide) (by decide) (mw (i := 348) (by decide +kernel)) (by decide +kernel) hF41 (by decide) (by decide) dX11_init_162 ?_
  have hF42 : Fr (1 + 196) (sX9 (σ) (130)) (st2 (tX1 (st2 (tX1 (st2 (tX1 (st2 (st2 (tX6 (st2 (tX9 (st2 (tX2 (st2 (tX4 (st2 (tX4 (st2 (tX3 (st2 (tX3 (st2 (tX8 (st2 (tX7 (st2 (tX5 (τ) (1)) (0) 0) (3)) (0) 1) (15)) (0) 2) (28)) (0) 3) (33)) (0) 4) (38)) (0) 5) (43)) (0) 6)) (0) 7) (130)) (0) 8) (134)) (0) 9) (0) 10) (145)) (144) 0) (162)) (144) 1) (179)) (144) 2) := hF41.mono (by omega)
  refine rn_dup dX11_init_165 rfl ?_
  refine rn_aload_n 1 dX11_init_166 rfl ?_
  refine rn_getR fi_X11_19 (by decide +kernel) (by decide) (by omega) (by decide) (by rfl) dX11_init_167 ?_
  rw [(show rf 0 1 = 3 by decide +kernel)]
  refine rn_call (b := 196) (mc := 16) (ms := 89) (d' := 2) [.ref (K.2.1 + 3)] (IX1 (a := 196) (p := 3) (show okX1 196 3 by decide +kernel) hF42) ccX1_init imX1_init rfl (mw (i := 351) (by decide +kernel)) (by decide) rfl rfl (Nat.le_of_ble_eq_true rfl) dX11_init_170 (by decide) (by decide) ?_
  have hF43 : Fr (1 + 212) (sX9 (σ) (130)) (tX1 (st2 (tX1 (st2 (tX1 (st2 (tX1 (st2 (st2 (tX6 (st2 (tX9 (st2 (tX2 (st2 (tX4 (st2 (tX4 (st2 (tX3 (st2 (tX3 (st2 (tX8 (st2 (tX7 (st2 (tX5 (τ) (1)) (0) 0) (3)) (0) 1) (15)) (0) 2) (28)) (0) 3) (33)) (0) 4) (38)) (0) 5) (43)) (0) 6)) (0) 7) (130)) (0) 8) (134)) (0) 9) (0) 10) (145)) (144) 0) (162)) (144) 1) (179)) (144) 2) (196)) := frX1 hF42
  refine rn_aast (t := 5) (N := 4) (a := 144) (v := 196) (ci := 1) (i := 3) rfl (by decide) (by decide +kernel) (by decide +kernel) (by decide) rfl (by omega) (by omega) (show rf 144 3 = 196 by decide +kernel) (by decide) (by decide) dX11_init_173 ?_
  have hF44 : Fr (1 + 212) (sX9 (σ) (130)) (st2 (tX1 (st2 (tX1 (st2 (tX1 (st2 (tX1 (st2 (st2 (tX6 (st2 (tX9 (st2 (tX2 (st2 (tX4 (st2 (tX4 (st2 (tX3 (st2 (tX3 (st2 (tX8 (st2 (tX7 (st2 (tX5 (τ) (1)) (0) 0) (3)) (0) 1) (15)) (0) 2) (28)) (0) 3) (33)) (0) 4) (38)) (0) 5) (43)) (0) 6)) (0) 7) (130)) (0) 8) (134)) (0) 9) (0) 10) (145)) (144) 0) (162)) (144) 1) (179)) (144) 2) (196)) (144) 3) := hF43.st (by omega)
  refine rn_iinc (x2 := nI 4) [(1, .int (nI 4)), (0, .ref (K.2.1 + 0))] 0 dX11_init_174 rfl (by decide) (by decide) rfl ?_
  refine rn_goto 148 dX11_init_177 (by decide) ?_
  refine rn_iload_n 0 dX11_init_148 rfl ?_
  refine rn_aload_n 1 dX11_init_149 rfl ?_
  refine rn_getR fi_X11_79 (by decide +kernel) (by decide) (by omega) (by decide) (by rfl) dX11_init_150 ?_
  rw [(show rf 0 10 = 144 by decide +kernel)]
  refine rn_alen (t := 5) (N := 4) (v := nI 4) rfl (by decide) (by decide +kernel) (by omega) (by decide) dX11_init_153 ?_
  refine rn_ge_t 180 (by decide) dX11_init_154 (by decide) ?_
  refine rn_aload_n 1 dX11_init_180 rfl ?_
  refine rn_bipush (nI 7) dX11_init_181 (by decide) ?_
  refine rn_newq (t := 4) (N := 7) (C := "LaundrySky$Sky") rfl (by decide) (mw (i := 226) (by decide +kernel)) (fun U h => h.1) (by decide +kernel) hF44 (by decide) (by decide) (by decide) (by decide) (by decide) dX11_init_183 ?_
  have hF45 : Fr (1 + 213) (sX9 (σ) (130)) (st2 (tX1 (st2 (tX1 (st2 (tX1 (st2 (tX1 (st2 (st2 (tX6 (st2 (tX9 (st2 (tX2 (st2 (tX4 (st2 (tX4 (st2 (tX3 (st2 (tX3 (st2 (tX8 (st2 (tX7 (st2 (tX5 (τ) (1)) (0) 0) (3)) (0) 1) (15)) (0) 2) (28)) (0) 3) (33)) (0) 4) (38)) (0) 5) (43)) (0) 6)) (0) 7) (130)) (0) 8) (134)) (0) 9) (0) 10) (145)) (144) 0) (162)) (144) 1) (179)) (144) 2) (196)) (144) 3) := hF44.mono (by omega)
  refine rn_putF fi_X11_84 ffX11_11 rfl (by decide +kernel) (by decide) (by omega) (by decide) (by rw [(show rf 0 11 = 213 by decide +kernel)]) dX11_init_186 ?_
  have hF46 : Fr (1 + 213) (sX9 (σ) (130)) (st2 (st2 (tX1 (st2 (tX1 (st2 (tX1 (st2 (tX1 (st2 (st2 (tX6 (st2 (tX9 (st2 (tX2 (st2 (tX4 (st2 (tX4 (st2 (tX3 (st2 (tX3 (st2 (tX8 (st2 (tX7 (st2 (tX5 (τ) (1)) (0) 0) (3)) (0) 1) (15)) (0) 2) (28)) (0) 3) (33)) (0) 4) (38)) (0) 5) (43)) (0) 6)) (0) 7) (130)) (0) 8) (134)) (0) 9) (0) 10) (145)) (144) 0) (162)) (144) 1) (179)) (144) 2) (196)) (144) 3) (0) 11) := hF45.st (by omega)
  refine rn_iconst (nI 0) dX11_init_189 (by decide) ?_
  refine rn_istore_n [(1, .int (nI 0)), (0, .ref (K.2.1 + 0))] dX11_init_190 (by decide) rfl ?_
  refine rn_iload_n 0 dX11_init_191 rfl ?_
  refine rn_aload_n 1 dX11_init_192 rfl ?_
  refine rn_getR fi_X11_84 (by decide +kernel) (by decide) (by omega) (by decide) (by rfl) dX11_init_193 ?_
  rw [(show rf 0 11 = 213 by decide +kernel)]
  refine rn_alen (t := 4) (N := 7) (v := nI 7) rfl (by decide) (by decide +kernel) (by omega) (by decide) dX11_init_196 ?_
  refine rn_ge_f 223 (by decide) dX11_init_197 (by decide) ?_
  refine rn_aload_n 1 dX11_init_200 rfl ?_
  refine rn_getR fi_X11_84 (by decide +kernel) (by decide) (by omega) (by decide) (by rfl) dX11_init_201 ?_
  rw [(show rf 0 11 = 213 by decide +kernel)]
  refine rn_iload_n 0 dX11_init_204 rfl ?_
  refine rn_new (ci := 4) (N := 7) kcX4 (by decide) (by decide) (mw (i := 226) (by decide +kernel)) (by decide +kernel) hF46 (by decide) (by decide) dX11_init_205 ?_
  have hF47 : Fr (1 + 214) (sX9 (σ) (130)) (st2 (st2 (tX1 (st2 (tX1 (st2 (tX1 (st2 (tX1 (st2 (st2 (tX6 (st2 (tX9 (st2 (tX2 (st2 (tX4 (st2 (tX4 (st2 (tX3 (st2 (tX3 (st2 (tX8 (st2 (tX7 (st2 (tX5 (τ) (1)) (0) 0) (3)) (0) 1) (15)) (0) 2) (28)) (0) 3) (33)) (0) 4) (38)) (0) 5) (43)) (0) 6)) (0) 7) (130)) (0) 8) (134)) (0) 9) (0) 10) (145)) (144) 0) (162)) (144) 1) (179)) (144) 2) (196)) (144) 3) (0) 11) := hF46.mono (by omega)
  refine rn_dup dX11_init_208 rfl ?_
  refine rn_aload_n 1 dX11_init_209 rfl ?_
  refine rn_getR fi_X11_19 (by decide +kernel) (by decide) (by omega) (by decide) (by rfl) dX11_init_210 ?_
  rw [(show rf 0 1 = 3 by decide +kernel)]
  refine rn_call (b := 214) (mc := 4) (ms := 22) (d' := 1) [.ref (K.2.1 + 3)] (IX4 (a := 214) (p := 3) (show okX4 214 3 by decide +kernel) hF47) ccX4_init imX4_init rfl (mw (i := 228) (by decide +kernel)) (by decide) rfl rfl (Nat.le_of_ble_eq_true rfl) dX11_init_213 (by decide) (by decide) ?_
  have hF48 : Fr (1 + 218) (sX9 (σ) (130)) (tX4 (st2 (st2 (tX1 (st2 (tX1 (st2 (tX1 (st2 (tX1 (st2 (st2 (tX6 (st2 (tX9 (st2 (tX2 (st2 (tX4 (st2 (tX4 (st2 (tX3 (st2 (tX3 (st2 (tX8 (st2 (tX7 (st2 (tX5 (τ) (1)) (0) 0) (3)) (0) 1) (15)) (0) 2) (28)) (0) 3) (33)) (0) 4) (38)) (0) 5) (43)) (0) 6)) (0) 7) (130)) (0) 8) (134)) (0) 9) (0) 10) (145)) (144) 0) (162)) (144) 1) (179)) (144) 2) (196)) (144) 3) (0) 11) (214)) := frX4 hF47
  refine rn_aast (t := 4) (N := 7) (a := 213) (v := 214) (ci := 4) (i := 0) rfl (by decide) (by decide +kernel) (by decide +kernel) (by decide) rfl (by omega) (by omega) (show rf 213 0 = 214 by decide +kernel) (by decide) (by decide) dX11_init_216 ?_
  have hF49 : Fr (1 + 218) (sX9 (σ) (130)) (st2 (tX4 (st2 (st2 (tX1 (st2 (tX1 (st2 (tX1 (st2 (tX1 (st2 (st2 (tX6 (st2 (tX9 (st2 (tX2 (st2 (tX4 (st2 (tX4 (st2 (tX3 (st2 (tX3 (st2 (tX8 (st2 (tX7 (st2 (tX5 (τ) (1)) (0) 0) (3)) (0) 1) (15)) (0) 2) (28)) (0) 3) (33)) (0) 4) (38)) (0) 5) (43)) (0) 6)) (0) 7) (130)) (0) 8) (134)) (0) 9) (0) 10) (145)) (144) 0) (162)) (144) 1) (179)) (144) 2) (196)) (144) 3) (0) 11) (214)) (213) 0) := hF48.st (by omega)
  refine rn_iinc (x2 := nI 1) [(1, .int (nI 1)), (0, .ref (K.2.1 + 0))] 0 dX11_init_217 rfl (by decide) (by decide) rfl ?_
  refine rn_goto 191 dX11_init_220 (by decide) ?_
  refine rn_iload_n 0 dX11_init_191 rfl ?_
  refine rn_aload_n 1 dX11_init_192 rfl ?_
  refine rn_getR fi_X11_84 (by decide +kernel) (by decide) (by omega) (by decide) (by rfl) dX11_init_193 ?_
  rw [(show rf 0 11 = 213 by decide +kernel)]
  refine rn_alen (t := 4) (N := 7) (v := nI 7) rfl (by decide) (by decide +kernel) (by omega) (by decide) dX11_init_196 ?_
  refine rn_ge_f 223 (by decide) dX11_init_197 (by decide) ?_
  refine rn_aload_n 1 dX11_init_200 rfl ?_
  refine rn_getR fi_X11_84 (by decide +kernel) (by decide) (by omega) (by decide) (by rfl) dX11_init_201 ?_
  rw [(show rf 0 11 = 213 by decide +kernel)]
  refine rn_iload_n 0 dX11_init_204 rfl ?_
  refine rn_new (ci := 4) (N := 7) kcX4 (by decide) (by decide) (mw (i := 226) (by decide +kernel)) (by decide +kernel) hF49 (by decide) (by decide) dX11_init_205 ?_
  have hF50 : Fr (1 + 219) (sX9 (σ) (130)) (st2 (tX4 (st2 (st2 (tX1 (st2 (tX1 (st2 (tX1 (st2 (tX1 (st2 (st2 (tX6 (st2 (tX9 (st2 (tX2 (st2 (tX4 (st2 (tX4 (st2 (tX3 (st2 (tX3 (st2 (tX8 (st2 (tX7 (st2 (tX5 (τ) (1)) (0) 0) (3)) (0) 1) (15)) (0) 2) (28)) (0) 3) (33)) (0) 4) (38)) (0) 5) (43)) (0) 6)) (0) 7) (130)) (0) 8) (134)) (0) 9) (0) 10) (145)) (144) 0) (162)) (144) 1) (179)) (144) 2) (196)) (144) 3) (0) 11) (214)) (213) 0) := hF49.mono (by omega)
  refine rn_dup dX11_init_208 rfl ?_
  refine rn_aload_n 1 dX11_init_209 rfl ?_
  refine rn_getR fi_X11_19 (by decide +kernel) (by decide) (by omega) (by decide) (by rfl) dX11_init_210 ?_
  rw [(show rf 0 1 = 3 by decide +kernel)]
  refine rn_call (b := 219) (mc := 4) (ms := 22) (d' := 1) [.ref (K.2.1 + 3)] (IX4 (a := 219) (p := 3) (show okX4 219 3 by decide +kernel) hF50) ccX4_init imX4_init rfl (mw (i := 228) (by decide +kernel)) (by decide) rfl rfl (Nat.le_of_ble_eq_true rfl) dX11_init_213 (by decide) (by decide) ?_
  have hF51 : Fr (1 + 223) (sX9 (σ) (130)) (tX4 (st2 (tX4 (st2 (st2 (tX1 (st2 (tX1 (st2 (tX1 (st2 (tX1 (st2 (st2 (tX6 (st2 (tX9 (st2 (tX2 (st2 (tX4 (st2 (tX4 (st2 (tX3 (st2 (tX3 (st2 (tX8 (st2 (tX7 (st2 (tX5 (τ) (1)) (0) 0) (3)) (0) 1) (15)) (0) 2) (28)) (0) 3) (33)) (0) 4) (38)) (0) 5) (43)) (0) 6)) (0) 7) (130)) (0) 8) (134)) (0) 9) (0) 10) (145)) (144) 0) (162)) (144) 1) (179)) (144) 2) (196)) (144) 3) (0) 11) (214)) (213) 0) (219)) := frX4 hF50
  refine rn_aast (t := 4) (N := 7) (a := 213) (v := 219) (ci := 4) (i := 1) rfl (by decide) (by decide +kernel) (by decide +kernel) (by decide) rfl (by omega) (by omega) (show rf 213 1 = 219 by decide +kernel) (by decide) (by decide) dX11_init_216 ?_
  have hF52 : Fr (1 + 223) (sX9 (σ) (130)) (st2 (tX4 (st2 (tX4 (st2 (st2 (tX1 (st2 (tX1 (st2 (tX1 (st2 (tX1 (st2 (st2 (tX6 (st2 (tX9 (st2 (tX2 (st2 (tX4 (st2 (tX4 (st2 (tX3 (st2 (tX3 (st2 (tX8 (st2 (tX7 (st2 (tX5 (τ) (1)) (0) 0) (3)) (0) 1) (15)) (0) 2) (28)) (0) 3) (33)) (0) 4) (38)) (0) 5) (43)) (0) 6)) (0) 7) (130)) (0) 8) (134)) (0) 9) (0) 10) (145)) (144) 0) (162)) (144) 1) (179)) (144) 2) (196)) (144) 3) (0) 11) (214)) (213) 0) (219)) (213) 1) := hF51.st (by omega)
  refine rn_iinc (x2 := nI 2) [(1, .int (nI 2)), (0, .ref (K.2.1 + 0))] 0 dX11_init_217 rfl (by decide) (by decide) rfl ?_
  refine rn_goto 191 dX11_init_220 (by decide) ?_
  refine rn_iload_n 0 dX11_init_191 rfl ?_
  refine rn_aload_n 1 dX11_init_192 rfl ?_
  refine rn_getR fi_X11_84 (by decide +kernel) (by decide) (by omega) (by decide) (by rfl) dX11_init_193 ?_
  rw [(show rf 0 11 = 213 by decide +kernel)]
  refine rn_alen (t := 4) (N := 7) (v := nI 7) rfl (by decide) (by decide +kernel) (by omega) (by decide) dX11_init_196 ?_
  refine rn_ge_f 223 (by decide) dX11_init_197 (by decide) ?_
  refine rn_aload_n 1 dX11_init_200 rfl ?_
  refine rn_getR fi_X11_84 (by decide +kernel) (by decide) (by omega) (by decide) (by rfl) dX11_init_201 ?_
  rw [(show rf 0 11 = 213 by decide +kernel)]
  refine rn_iload_n 0 dX11_init_204 rfl ?_
  refine rn_new (ci := 4) (N := 7) kcX4 (by decide) (by decide) (mw (i := 226) (by decide +kernel)) (by decide +kernel) hF52 (by decide) (by decide) dX11_init_205 ?_
  have hF53 : Fr (1 + 224) (sX9 (σ) (130)) (st2 (tX4 (st2 (tX4 (st2 (st2 (tX1 (st2 (tX1 (st2 (tX1 (st2 (tX1 (st2 (st2 (tX6 (st2 (tX9 (st2 (tX2 (st2 (tX4 (st2 (tX4 (st2 (tX3 (st2 (tX3 (st2 (tX8 (st2 (tX7 (st2 (tX5 (τ) (1)) (0) 0) (3)) (0) 1) (15)) (0) 2) (28)) (0) 3) (33)) (0) 4) (38)) (0) 5) (43)) (0) 6)) (0) 7) (130)) (0) 8) (134)) (0) 9) (0) 10) (145)) (144) 0) (162)) (144) 1) (179)) (144) 2) (196)) (144) 3) (0) 11) (214)) (213) 0) (219)) (213) 1) := hF52.mono (by omega)
  refine rn_dup dX11_init_208 rfl ?_
  refine rn_aload_n 1 dX11_init_209 rfl ?_
  refine rn_getR fi_X11_19 (by decide +kernel) (by decide) (by omega) (by decide) (by rfl) dX11_init_210 ?_
  rw [(show rf 0 1 = 3 by decide +kernel)]
  refine rn_call (b := 224) (mc := 4) (ms := 22) (d' := 1) [.ref (K.2.1 + 3)] (IX4 (a := 224) (p := 3) (show okX4 224 3 by decide +kernel) hF53) ccX4_init imX4_init rfl (mw (i := 228) (by decide +kernel)) (by decide) rfl rfl (Nat.le_of_ble_eq_true rfl) dX11_init_213 (by decide) (by decide) ?_
  have hF54 : Fr (1 + 228) (sX9 (σ) (130)) (tX4 (st2 (tX4 (st2 (tX4 (st2 (st2 (tX1 (st2 (tX1 (st2 (tX1 (st2 (tX1 (st2 (st2 (tX6 (st2 (tX9 (st2 (tX2 (st2 (tX4 (st2 (tX4 (st2 (tX3 (st2 (tX3 (st2 (tX8 (st2 (tX7 (st2 (tX5 (τ) (1)) (0) 0) (3)) (0) 1) (15)) (0) 2) (28)) (0) 3) (33)) (0) 4) (38)) (0) 5) (43)) (0) 6)) (0) 7) (130)) (0) 8) (134)) (0) 9) (0) 10) (145)) (144) 0) (162)) (144) 1) (179)) (144) 2) (196)) (144) 3) (0) 11) (214)) (213) 0) (219)) (213) 1) (224)) := frX4 hF53
  refine rn_aast (t := 4) (N := 7) (a := 213) (v := 224) (ci := 4) (i := 2) rfl (by decide) (by decide +kernel) (by decide +kernel) (by decide) rfl (by omega) (by omega) (show rf 213 2 = 224 by decide +kernel) (by decide) (by decide) dX11_init_216 ?_
  have hF55 : Fr (1 + 228) (sX9 (σ) (130)) (st2 (tX4 (st2 (tX4 (st2 (tX4 (st2 (st2 (tX1 (st2 (tX1 (st2 (tX1 (st2 (tX1 (st2 (st2 (tX6 (st2 (tX9 (st2 (tX2 (st2 (tX4 (st2 (tX4 (st2 (tX3 (st2 (tX3 (st2 (tX8 (st2 (tX7 (st2 (tX5 (τ) (1)) (0) 0) (3)) (0) 1) (15)) (0) 2) (28)) (0) 3) (33)) (0) 4) (38)) (0) 5) (43)) (0) 6)) (0) 7) (130)) (0) 8) (134)) (0) 9) (0) 10) (145)) (144) 0) (162)) (144) 1) (179)) (144) 2) (196)) (144) 3) (0) 11) (214)) (213) 0) (219)) (213) 1) (224)) (213) 2) := hF54.st (by omega)
  refine rn_iinc (x2 := nI 3) [(1, .int (nI 3)), (0, .ref (K.2.1 + 0))] 0 dX11_init_217 rfl (by decide) (by decide) rfl ?_
  refine rn_goto 191 dX11_init_220 (by decide) ?_
  refine rn_iload_n 0 dX11_init_191 rfl ?_
  refine rn_aload_n 1 dX11_init_192 rfl ?_
  refine rn_getR fi_X11_84 (by decide +kernel) (by decide) (by omega) (by decide) (by rfl) dX11_init_193 ?_
  rw [(show rf 0 11 = 213 by decide +kernel)]
  refine rn_alen (t := 4) (N := 7) (v := nI 7) rfl (by decide) (by decide +kernel) (by omega) (by decide) dX11_init_196 ?_
  refine rn_ge_f 223 (by decide) dX11_init_197 (by decide) ?_
  refine rn_aload_n 1 dX11_init_200 rfl ?_
  refine rn_getR fi_X11_84 (by decide +kernel) (by decide) (by omega) (by decide) (by rfl) dX11_init_201 ?_
  rw [(show rf 0 11 = 213 by decide +kernel)]
  refine rn_iload_n 0 dX11_init_204 rfl ?_
  refine rn_new (ci := 4) (N := 7) kcX4 (by decide) (by decide) (mw (i := 226) (by decide +kernel)) (by decide +kernel) hF55 (by decide) (by decide) dX11_init_205 ?_
  have hF56 : Fr (1 + 229) (sX9 (σ) (130)) (st2 (tX4 (st2 (tX4 (st2 (tX4 (st2 (st2 (tX1 (st2 (tX1 (st2 (tX1 (st2 (tX1 (st2 (st2 (tX6 (st2 (tX9 (st2 (tX2 (st2 (tX4 (st2 (tX4 (st2 (tX3 (st2 (tX3 (st2 (tX8 (st2 (tX7 (st2 (tX5 (τ) (1)) (0) 0) (3)) (0) 1) (15)) (0) 2) (28)) (0) 3) (33)) (0) 4) (38)) (0) 5) (43)) (0) 6)) (0) 7) (130)) (0) 8) (134)) (0) 9) (0) 10) (145)) (144) 0) (162)) (144) 1) (179)) (144) 2) (196)) (144) 3) (0) 11) (214)) (213) 0) (219)) (213) 1) (224)) (213) 2) := hF55.mono (by omega)
  refine rn_dup dX11_init_208 rfl ?_
  refine rn_aload_n 1 dX11_init_209 rfl ?_
  refine rn_getR fi_X11_19 (by decide +kernel) (by decide) (by omega) (by decide) (by rfl) dX11_init_210 ?_
  rw [(show rf 0 1 = 3 by decide +kernel)]
  refine rn_call (b := 229) (mc := 4) (ms := 22) (d' := 1) [.ref (K.2.1 + 3)] (IX4 (a := 229) (p := 3) (show okX4 229 3 by decide +kernel) hF56) ccX4_init imX4_init rfl (mw (i := 228) (by decide +kernel)) (by decide) rfl rfl (Nat.le_of_ble_eq_true rfl) dX11_init_213 (by decide) (by decide) ?_
  have hF57 : Fr (1 + 233) (sX9 (σ) (130)) (tX4 (st2 (tX4 (st2 (tX4 (st2 (tX4 (st2 (st2 (tX1 (st2 (tX1 (st2 (tX1 (st2 (tX1 (st2 (st2 (tX6 (st2 (tX9 (st2 (tX2 (st2 (tX4 (st2 (tX4 (st2 (tX3 (st2 (tX3 (st2 (tX8 (st2 (tX7 (st2 (tX5 (τ) (1)) (0) 0) (3)) (0) 1) (15)) (0) 2) (28)) (0) 3) (33)) (0) 4) (38)) (0) 5) (43)) (0) 6)) (0) 7) (130)) (0) 8) (134)) (0) 9) (0) 10) (145)) (144) 0) (162)) (144) 1) (179)) (144) 2) (196)) (144) 3) (0) 11) (214)) (213) 0) (219)) (213) 1) (224)) (213) 2) (229)) := frX4 hF56
  refine rn_aast (t := 4) (N := 7) (a := 213) (v := 229) (ci := 4) (i := 3) rfl (by decide) (by decide +kernel) (by decide +kernel) (by decide) rfl (by omega) (by omega) (show rf 213 3 = 229 by decide +kernel) (by decide) (by decide) dX11_init_216 ?_
  have hF58 : Fr (1 + 233) (sX9 (σ) (130)) (st2 (tX4 (st2 (tX4 (st2 (tX4 (st2 (tX4 (st2 (st2 (tX1 (st2 (tX1 (st2 (tX1 (st2 (tX1 (st2 (st2 (tX6 (st2 (tX9 (st2 (tX2 (st2 (tX4 (st2 (tX4 (st2 (tX3 (st2 (tX3 (st2 (tX8 (st2 (tX7 (st2 (tX5 (τ) (1)) (0) 0) (3)) (0) 1) (15)) (0) 2) (28)) (0) 3) (33)) (0) 4) (38)) (0) 5) (43)) (0) 6)) (0) 7) (130)) (0) 8) (134)) (0) 9) (0) 10) (145)) (144) 0) (162)) (144) 1) (179)) (144) 2) (196)) (144) 3) (0) 11) (214)) (213) 0) (219)) (213) 1) (224)) (213) 2) (229)) (213) 3) := hF57.st (by omega)
  refine rn_iinc (x2 := nI 4) [(1, .int (nI 4)), (0, .ref (K.2.1 + 0))] 0 dX11_init_217 rfl (by decide) (by decide) rfl ?_
  refine rn_goto 191 dX11_init_220 (by decide) ?_
  refine rn_iload_n 0 dX11_init_191 rfl ?_
  refine rn_aload_n 1 dX11_init_192 rfl ?_
  refine rn_getR fi_X11_84 (by decide +kernel) (by decide) (by omega) (by decide) (by rfl) dX11_init_193 ?_
  rw [(show rf 0 11 = 213 by decide +kernel)]
  refine rn_alen (t := 4) (N := 7) (v := nI 7) rfl (by decide) (by decide +kernel) (by omega) (by decide) dX11_init_196 ?_
  refine rn_ge_f 223 (by decide) dX11_init_197 (by decide) ?_
  refine rn_aload_n 1 dX11_init_200 rfl ?_
  refine rn_getR fi_X11_84 (by decide +kernel) (by decide) (by omega) (by decide) (by rfl) dX11_init_201 ?_
  rw [(show rf 0 11 = 213 by decide +kernel)]
  refine rn_iload_n 0 dX11_init_204 rfl ?_
  refine rn_new (ci := 4) (N := 7) kcX4 (by decide) (by decide) (mw (i := 226) (by decide +kernel)) (by decide +kernel) hF58 (by decide) (by decide) dX11_init_205 ?_
  have hF59 : Fr (1 + 234) (sX9 (σ) (130)) (st2 (tX4 (st2 (tX4 (st2 (tX4 (st2 (tX4 (st2 (st2 (tX1 (st2 (tX1 (st2 (tX1 (st2 (tX1 (st2 (st2 (tX6 (st2 (tX9 (st2 (tX2 (st2 (tX4 (st2 (tX4 (st2 (tX3 (st2 (tX3 (st2 (tX8 (st2 (tX7 (st2 (tX5 (τ) (1)) (0) 0) (3)) (0) 1) (15)) (0) 2) (28)) (0) 3) (33)) (0) 4) (38)) (0) 5) (43)) (0) 6)) (0) 7) (130)) (0) 8) (134)) (0) 9) (0) 10) (145)) (144) 0) (162)) (144) 1) (179)) (144) 2) (196)) (144) 3) (0) 11) (214)) (213) 0) (219)) (213) 1) (224)) (213) 2) (229)) (213) 3) := hF58.mono (by omega)
  refine rn_dup dX11_init_208 rfl ?_
  refine rn_aload_n 1 dX11_init_209 rfl ?_
  refine rn_getR fi_X11_19 (by decide +kernel) (by decide) (by omega) (by decide) (by rfl) dX11_init_210 ?_
  rw [(show rf 0 1 = 3 by decide +kernel)]
  refine rn_call (b := 234) (mc := 4) (ms := 22) (d' := 1) [.ref (K.2.1 + 3)] (IX4 (a := 234) (p := 3) (show okX4 234 3 by decide +kernel) hF59) ccX4_init imX4_init rfl (mw (i := 228) (by decide +kernel)) (by decide) rfl rfl (Nat.le_of_ble_eq_true rfl) dX11_init_213 (by decide) (by decide) ?_
  have hF60 : Fr (1 + 238) (sX9 (σ) (130)) (tX4 (st2 (tX4 (st2 (tX4 (st2 (tX4 (st2 (tX4 (st2 (st2 (tX1 (st2 (tX1 (st2 (tX1 (st2 (tX1 (st2 (st2 (tX6 (st2 (tX9 (st2 (tX2 (st2 (tX4 (st2 (tX4 (st2 (tX3 (st2 (tX3 (st2 (tX8 (st2 (tX7 (st2 (tX5 (τ) (1)) (0) 0) (3)) (0) 1) (15)) (0) 2) (28)) (0) 3) (33)) (0) 4) (38)) (0) 5) (43)) (0) 6)) (0) 7) (130)) (0) 8) (134)) (0) 9) (0) 10) (145)) (144) 0) (162)) (144) 1) (179)) (144) 2) (196)) (144) 3) (0) 11) (214)) (213) 0) (219)) (213) 1) (224)) (213) 2) (229)) (213) 3) (234)) := frX4 hF59
  refine rn_aast (t := 4) (N := 7) (a := 213) (v := 234) (ci := 4) (i := 4) rfl (by decide) (by decide +kernel) (by decide +kernel) (by decide) rfl (by omega) (by omega) (show rf 213 4 = 234 by decide +kernel) (by decide) (by decide) dX11_init_216 ?_
  have hF61 : Fr (1 + 238) (sX9 (σ) (130)) (st2 (tX4 (st2 (tX4 (st2 (tX4 (st2 (tX4 (st2 (tX4 (st2 (st2 (tX1 (st2 (tX1 (st2 (tX1 (st2 (tX1 (st2 (st2 (tX6 (st2 (tX9 (st2 (tX2 (st2 (tX4 (st2 (tX4 (st2 (tX3 (st2 (tX3 (st2 (tX8 (st2 (tX7 (st2 (tX5 (τ) (1)) (0) 0) (3)) (0) 1) (15)) (0) 2) (28)) (0) 3) (33)) (0) 4) (38)) (0) 5) (43)) (0) 6)) (0) 7) (130)) (0) 8) (134)) (0) 9) (0) 10) (145)) (144) 0) (162)) (144) 1) (179)) (144) 2) (196)) (144) 3) (0) 11) (214)) (213) 0) (219)) (213) 1) (224)) (213) 2) (229)) (213) 3) (234)) (213) 4) := hF60.st (by omega)
  refine rn_iinc (x2 := nI 5) [(1, .int (nI 5)), (0, .ref (K.2.1 + 0))] 0 dX11_init_217 rfl (by decide) (by decide) rfl ?_
  refine rn_goto 191 dX11_init_220 (by decide) ?_
  refine rn_iload_n 0 dX11_init_191 rfl ?_
  refine rn_aload_n 1 dX11_init_192 rfl ?_
  refine rn_getR fi_X11_84 (by decide +kernel) (by decide) (by omega) (by decide) (by rfl) dX11_init_193 ?_
  rw [(show rf 0 11 = 213 by decide +kernel)]
  refine rn_alen (t := 4) (N := 7) (v := nI 7) rfl (by decide) (by decide +kernel) (by omega) (by decide) dX11_init_196 ?_
  refine rn_ge_f 223 (by decide) dX11_init_197 (by decide) ?_
  refine rn_aload_n 1 dX11_init_200 rfl ?_
  refine rn_getR fi_X11_84 (by decide +kernel) (by decide) (by omega) (by decide) (by rfl) dX11_init_201 ?_
  rw [(show rf 0 11 = 213 by decide +kernel)]
  refine rn_iload_n 0 dX11_init_204 rfl ?_
  refine rn_new (ci := 4) (N := 7) kcX4 (by decide) (by decide) (mw (i := 226) (by decide +kernel)) (by decide +kernel) hF61 (by decide) (by decide) dX11_init_205 ?_
  have hF62 : Fr (1 + 239) (sX9 (σ) (130)) (st2 (tX4 (st2 (tX4 (st2 (tX4 (st2 (tX4 (st2 (tX4 (st2 (st2 (tX1 (st2 (tX1 (st2 (tX1 (st2 (tX1 (st2 (st2 (tX6 (st2 (tX9 (st2 (tX2 (st2 (tX4 (st2 (tX4 (st2 (tX3 (st2 (tX3 (st2 (tX8 (st2 (tX7 (st2 (tX5 (τ) (1)) (0) 0) (3)) (0) 1) (15)) (0) 2) (28)) (0) 3) (33)) (0) 4) (38)) (0) 5) (43)) (0) 6)) (0) 7) (130)) (0) 8) (134)) (0) 9) (0) 10) (145)) (144) 0) (162)) (144) 1) (179)) (144) 2) (196)) (144) 3) (0) 11) (214)) (213) 0) (219)) (213) 1) (224)) (213) 2) (229)) (213) 3) (234)) (213) 4) := hF61.mono (by omega)
  refine rn_dup dX11_init_208 rfl ?_
  refine rn_aload_n 1 dX11_init_209 rfl ?_
  refine rn_getR fi_X11_19 (by decide +kernel) (by decide) (by omega) (by decide) (by rfl) dX11_init_210 ?_
  rw [(show rf 0 1 = 3 by decide +kernel)]
  refine rn_call (b := 239) (mc := 4) (ms := 22) (d' := 1) [.ref (K.2.1 + 3)] (IX4 (a := 239) (p := 3) (show okX4 239 3 by decide +kernel) hF62) ccX4_init imX4_init rfl (mw (i := 228) (by decide +kernel)) (by decide) rfl rfl (Nat.le_of_ble_eq_true rfl) dX11_init_213 (by decide) (by decide) ?_
  have hF63 : Fr (1 + 243) (sX9 (σ) (130)) (tX4 (st2 (tX4 (st2 (tX4 (st2 (tX4 (st2 (tX4 (st2 (tX4 (st2 (st2 (tX1 (st2 (tX1 (st2 (tX1 (st2 (tX1 (st2 (st2 (tX6 (st2 (tX9 (st2 (tX2 (st2 (tX4 (st2 (tX4 (st2 (tX3 (st2 (tX3 (st2 (tX8 (st2 (tX7 (st2 (tX5 (τ) (1)) (0) 0) (3)) (0) 1) (15)) (0) 2) (28)) (0) 3) (33)) (0) 4) (38)) (0) 5) (43)) (0) 6)) (0) 7) (130)) (0) 8) (134)) (0) 9) (0) 10) (145)) (144) 0) (162)) (144) 1) (179)) (144) 2) (196)) (144) 3) (0) 11) (214)) (213) 0) (219)) (213) 1) (224)) (213) 2) (229)) (213) 3) (234)) (213) 4) (239)) := frX4 hF62
  refine rn_aast (t := 4) (N := 7) (a := 213) (v := 239) (ci := 4) (i := 5) rfl (by decide) (by decide +kernel) (by decide +kernel) (by decide) rfl (by omega) (by omega) (show rf 213 5 = 239 by decide +kernel) (by decide) (by decide) dX11_init_216 ?_
  have hF64 : Fr (1 + 243) (sX9 (σ) (130)) (st2 (tX4 (st2 (tX4 (st2 (tX4 (st2 (tX4 (st2 (tX4 (st2 (tX4 (st2 (st2 (tX1 (st2 (tX1 (st2 (tX1 (st2 (tX1 (st2 (st2 (tX6 (st2 (tX9 (st2 (tX2 (st2 (tX4 (st2 (tX4 (st2 (tX3 (st2 (tX3 (st2 (tX8 (st2 (tX7 (st2 (tX5 (τ) (1)) (0) 0) (3)) (0) 1) (15)) (0) 2) (28)) (0) 3) (33)) (0) 4) (38)) (0) 5) (43)) (0) 6)) (0) 7) (130)) (0) 8) (134)) (0) 9) (0) 10) (145)) (144) 0) (162)) (144) 1) (179)) (144) 2) (196)) (144) 3) (0) 11) (214)) (213) 0) (219)) (213) 1) (224)) (213) 2) (229)) (213) 3) (234)) (213) 4) (239)) (213) 5) := hF63.st (by omega)
  refine rn_iinc (x2 := nI 6) [(1, .int (nI 6)), (0, .ref (K.2.1 + 0))] 0 dX11_init_217 rfl (by decide) (by decide) rfl ?_
  refine rn_goto 191 dX11_init_220 (by decide) ?_
  refine rn_iload_n 0 dX11_init_191 rfl ?_
  refine rn_aload_n 1 dX11_init_192 rfl ?_
  refine rn_getR fi_X11_84 (by decide +kernel) (by decide) (by omega) (by decide) (by rfl) dX11_init_193 ?_
  rw [(show rf 0 11 = 213 by decide +kernel)]
  refine rn_alen (t := 4) (N := 7) (v := nI 7) rfl (by decide) (by decide +kernel) (by omega) (by decide) dX11_init_196 ?_
  refine rn_ge_f 223 (by decide) dX11_init_197 (by decide) ?_
  refine rn_aload_n 1 dX11_init_200 rfl ?_
  refine rn_getR fi_X11_84 (by decide +kernel) (by decide) (by omega) (by decide) (by rfl) dX11_init_201 ?_
  rw [(show rf 0 11 = 213 by decide +kernel)]
  refine rn_iload_n 0 dX11_init_204 rfl ?_
  refine rn_new (ci := 4) (N := 7) kcX4 (by decide) (by decide) (mw (i := 226) (by decide +kernel)) (by decide +kernel) hF64 (by decide) (by decide) dX11_init_205 ?_
  have hF65 : Fr (1 + 244) (sX9 (σ) (130)) (st2 (tX4 (st2 (tX4 (st2 (tX4 (st2 (tX4 (st2 (tX4 (st2 (tX4 (st2 (st2 (tX1 (st2 (tX1 (st2 (tX1 (st2 (tX1 (st2 (st2 (tX6 (st2 (tX9 (st2 (tX2 (st2 (tX4 (st2 (tX4 (st2 (tX3 (st2 (tX3 (st2 (tX8 (st2 (tX7 (st2 (tX5 (τ) (1)) (0) 0) (3)) (0) 1) (15)) (0) 2) (28)) (0) 3) (33)) (0) 4) (38)) (0) 5) (43)) (0) 6)) (0) 7) (130)) (0) 8) (134)) (0) 9) (0) 10) (145)) (144) 0) (162)) (144) 1) (179)) (144) 2) (196)) (144) 3) (0) 11) (214)) (213) 0) (219)) (213) 1) (224)) (213) 2) (229)) (213) 3) (234)) (213) 4) (239)) (213) 5) := hF64.mono (by omega)
  refine rn_dup dX11_init_208 rfl ?_
  refine rn_aload_n 1 dX11_init_209 rfl ?_
  refine rn_getR fi_X11_19 (by decide +kernel) (by decide) (by omega) (by decide) (by rfl) dX11_init_210 ?_
  rw [(show rf 0 1 = 3 by decide +kernel)]
  refine rn_call (b := 244) (mc := 4) (ms := 22) (d' := 1) [.ref (K.2.1 + 3)] (IX4 (a := 244) (p := 3) (show okX4 244 3 by decide +kernel) hF65) ccX4_init imX4_init rfl (mw (i := 228) (by decide +kernel)) (by decide) rfl rfl (Nat.le_of_ble_eq_true rfl) dX11_init_213 (by decide) (by decide) ?_
  have hF66 : Fr (1 + 248) (sX9 (σ) (130)) (tX4 (st2 (tX4 (st2 (tX4 (st2 (tX4 (st2 (tX4 (st2 (tX4 (st2 (tX4 (st2 (st2 (tX1 (st2 (tX1 (st2 (tX1 (st2 (tX1 (st2 (st2 (tX6 (st2 (tX9 (st2 (tX2 (st2 (tX4 (st2 (tX4 (st2 (tX3 (st2 (tX3 (st2 (tX8 (st2 (tX7 (st2 (tX5 (τ) (1)) (0) 0) (3)) (0) 1) (15)) (0) 2) (28)) (0) 3) (33)) (0) 4) (38)) (0) 5) (43)) (0) 6)) (0) 7) (130)) (0) 8) (134)) (0) 9) (0) 10) (145)) (144) 0) (162)) (144) 1) (179)) (144) 2) (196)) (144) 3) (0) 11) (214)) (213) 0) (219)) (213) 1) (224)) (213) 2) (229)) (213) 3) (234)) (213) 4) (239)) (213) 5) (244)) := frX4 hF65
  refine rn_aast (t := 4) (N := 7) (a := 213) (v := 244) (ci := 4) (i := 6) rfl (by decide) (by decide +kernel) (by decide +kernel) (by decide) rfl (by omega) (by omega) (show rf 213 6 = 244 by decide +kernel) (by decide) (by decide) dX11_init_216 ?_
  have hF67 : Fr (1 + 248) (sX9 (σ) (130)) (st2 (tX4 (st2 (tX4 (st2 (tX4 (st2 (tX4 (st2 (tX4 (st2 (tX4 (st2 (tX4 (st2 (st2 (tX1 (st2 (tX1 (st2 (tX1 (st2 (tX1 (st2 (st2 (tX6 (st2 (tX9 (st2 (tX2 (st2 (tX4 (st2 (tX4 (st2 (tX3 (st2 (tX3 (st2 (tX8 (st2 (tX7 (st2 (tX5 (τ) (1)) (0) 0) (3)) (0) 1) (15)) (0) 2) (28)) (0) 3) (33)) (0) 4) (38)) (0) 5) (43)) (0) 6)) (0) 7) (130)) (0) 8) (134)) (0) 9) (0) 10) (145)) (144) 0) (162)) (144) 1) (179)) (144) 2) (196)) (144) 3) (0) 11) (214)) (213) 0) (219)) (213) 1) (224)) (213) 2) (229)) (213) 3) (234)) (213) 4) (239)) (213) 5) (244)) (213) 6) := hF66.st (by omega)
  refine rn_iinc (x2 := nI 7) [(1, .int (nI 7)), (0, .ref (K.2.1 + 0))] 0 dX11_init_217 rfl (by decide) (by decide) rfl ?_
  refine rn_goto 191 dX11_init_220 (by decide) ?_
  refine rn_iload_n 0 dX11_init_191 rfl ?_
  refine rn_aload_n 1 dX11_init_192 rfl ?_
  refine rn_getR fi_X11_84 (by decide +kernel) (by decide) (by omega) (by decide) (by rfl) dX11_init_193 ?_
  rw [(show rf 0 11 = 213 by decide +kernel)]
  refine rn_alen (t := 4) (N := 7) (v := nI 7) rfl (by decide) (by decide +kernel) (by omega) (by decide) dX11_init_196 ?_
  refine rn_ge_t 223 (by decide) dX11_init_197 (by decide) ?_
  exact rn_ret rfl dX11_init_223
