/-! ===== the static table, told ===== -/
theorem r0_0 : rf 0 0 = 1 := by decide +kernel
theorem r0_1 : rf 0 1 = 3 := by decide +kernel
theorem r0_2 : rf 0 2 = 15 := by decide +kernel
theorem r0_3 : rf 0 3 = 28 := by decide +kernel
theorem r0_4 : rf 0 4 = 33 := by decide +kernel
theorem r0_5 : rf 0 5 = 38 := by decide +kernel
theorem r0_6 : rf 0 6 = 43 := by decide +kernel
theorem r0_7 : rf 0 7 = 48 := by decide +kernel
theorem r0_8 : rf 0 8 = 130 := by decide +kernel
theorem r0_9 : rf 0 9 = 134 := by decide +kernel
theorem r0_10 : rf 0 10 = 144 := by decide +kernel
theorem r0_11 : rf 0 11 = 213 := by decide +kernel
theorem r1_0 : rf 1 0 = 2 := by decide +kernel
theorem r3_0 : rf 3 0 = 4 := by decide +kernel
theorem r3_1 : rf 3 1 = 5 := by decide +kernel
theorem r3_2 : rf 3 2 = 6 := by decide +kernel
theorem r3_3 : rf 3 3 = 7 := by decide +kernel
theorem r3_4 : rf 3 4 = 8 := by decide +kernel
theorem r3_5 : rf 3 5 = 9 := by decide +kernel
theorem r3_6 : rf 3 6 = 10 := by decide +kernel
theorem r3_7 : rf 3 7 = 11 := by decide +kernel
theorem r3_8 : rf 3 8 = 12 := by decide +kernel
theorem r12_0 : rf 12 0 = 13 := by decide +kernel
theorem r12_1 : rf 12 1 = 14 := by decide +kernel
theorem r15_0 : rf 15 0 = 1 := by decide +kernel
theorem r15_1 : rf 15 1 = 16 := by decide +kernel
theorem r16_0 : rf 16 0 = 17 := by decide +kernel
theorem r16_1 : rf 16 1 = 18 := by decide +kernel
theorem r16_2 : rf 16 2 = 19 := by decide +kernel
theorem r16_3 : rf 16 3 = 20 := by decide +kernel
theorem r16_4 : rf 16 4 = 21 := by decide +kernel
theorem r16_5 : rf 16 5 = 22 := by decide +kernel
theorem r16_6 : rf 16 6 = 23 := by decide +kernel
theorem r16_7 : rf 16 7 = 24 := by decide +kernel
theorem r16_8 : rf 16 8 = 25 := by decide +kernel
theorem r25_0 : rf 25 0 = 26 := by decide +kernel
theorem r25_1 : rf 25 1 = 27 := by decide +kernel
theorem r28_0 : rf 28 0 = 29 := by decide +kernel
theorem r28_1 : rf 28 1 = 30 := by decide +kernel
theorem r28_2 : rf 28 2 = 31 := by decide +kernel
theorem r28_3 : rf 28 3 = 32 := by decide +kernel
theorem r33_0 : rf 33 0 = 34 := by decide +kernel
theorem r33_1 : rf 33 1 = 35 := by decide +kernel
theorem r33_2 : rf 33 2 = 36 := by decide +kernel
theorem r33_3 : rf 33 3 = 37 := by decide +kernel
theorem r38_0 : rf 38 0 = 3 := by decide +kernel
theorem r38_1 : rf 38 1 = 39 := by decide +kernel
theorem r38_2 : rf 38 2 = 40 := by decide +kernel
theorem r38_3 : rf 38 3 = 41 := by decide +kernel
theorem r38_4 : rf 38 4 = 42 := by decide +kernel
theorem r43_0 : rf 43 0 = 3 := by decide +kernel
theorem r43_1 : rf 43 1 = 44 := by decide +kernel
theorem r43_2 : rf 43 2 = 45 := by decide +kernel
theorem r43_3 : rf 43 3 = 46 := by decide +kernel
theorem r43_4 : rf 43 4 = 47 := by decide +kernel
theorem r48_0 : rf 48 0 = 49 := by decide +kernel
theorem r130_0 : rf 130 0 = 131 := by decide +kernel
theorem r130_1 : rf 130 1 = 132 := by decide +kernel
theorem r130_2 : rf 130 2 = 43 := by decide +kernel
theorem r130_3 : rf 130 3 = 133 := by decide +kernel
theorem r134_0 : rf 134 0 = 135 := by decide +kernel
theorem r134_1 : rf 134 1 = 136 := by decide +kernel
theorem r134_2 : rf 134 2 = 137 := by decide +kernel
theorem r134_7 : rf 134 7 = 43 := by decide +kernel
theorem r134_8 : rf 134 8 = 138 := by decide +kernel
theorem r134_9 : rf 134 9 = 143 := by decide +kernel
theorem r249_1 : rf 249 1 = 250 := by decide +kernel
theorem r249_4 : rf 249 4 = 251 := by decide +kernel
theorem r249_5 : rf 249 5 = 252 := by decide +kernel
theorem r249_6 : rf 249 6 = 253 := by decide +kernel
theorem r249_9 : rf 249 9 = 254 := by decide +kernel
theorem r249_10 : rf 249 10 = 255 := by decide +kernel
theorem r249_11 : rf 249 11 = 256 := by decide +kernel
theorem r249_12 : rf 249 12 = 257 := by decide +kernel
theorem r249_14 : rf 249 14 = 258 := by decide +kernel
theorem r249_15 : rf 249 15 = 259 := by decide +kernel
theorem r249_16 : rf 249 16 = 260 := by decide +kernel
theorem r249_17 : rf 249 17 = 261 := by decide +kernel
theorem r249_20 : rf 249 20 = 262 := by decide +kernel
theorem r249_21 : rf 249 21 = 263 := by decide +kernel
theorem r249_22 : rf 249 22 = 264 := by decide +kernel
theorem r249_23 : rf 249 23 = 265 := by decide +kernel
theorem r249_25 : rf 249 25 = 266 := by decide +kernel
theorem r249_26 : rf 249 26 = 267 := by decide +kernel
theorem r249_27 : rf 249 27 = 268 := by decide +kernel
theorem r249_29 : rf 249 29 = 269 := by decide +kernel
theorem sky_rf : ∀ a, a < 270 → sh a = (4, 0) → rf a 0 = 3 ∧ rf a 1 = a + 1 ∧ rf a 2 = a + 2 ∧ rf a 3 = a + 3 ∧ rf a 4 = a + 4 := by decide +kernel
theorem sk0 {a : Nat} (h : ob a 4) : rf a 0 = 3 := (sky_rf a h.1 h.2).1
theorem sk1 {a : Nat} (h : ob a 4) : rf a 1 = a + 1 := (sky_rf a h.1 h.2).2.1
theorem sk2 {a : Nat} (h : ob a 4) : rf a 2 = a + 2 := (sky_rf a h.1 h.2).2.2.1
theorem sk3 {a : Nat} (h : ob a 4) : rf a 3 = a + 3 := (sky_rf a h.1 h.2).2.2.2.1
theorem sk4 {a : Nat} (h : ob a 4) : rf a 4 = a + 4 := (sky_rf a h.1 h.2).2.2.2.2
theorem ob_of {a c : Nat} (h : (decide (a < 270) && decide (sh a = (c, 0))) = true) : ob a c := by simp only [Bool.and_eq_true, decide_eq_true_eq] at h; exact h
theorem o0 : ob 0 10 := ob_of (by decide +kernel)
theorem o1 : ob 1 5 := ob_of (by decide +kernel)
theorem o3 : ob 3 7 := ob_of (by decide +kernel)
theorem o12 : ob 12 0 := ob_of (by decide +kernel)
theorem o15 : ob 15 8 := ob_of (by decide +kernel)
theorem o16 : ob 16 7 := ob_of (by decide +kernel)
theorem o25 : ob 25 0 := ob_of (by decide +kernel)
theorem o28 : ob 28 3 := ob_of (by decide +kernel)
theorem o33 : ob 33 3 := ob_of (by decide +kernel)
theorem o38 : ob 38 4 := ob_of (by decide +kernel)
theorem o43 : ob 43 4 := ob_of (by decide +kernel)
theorem o48 : ob 48 2 := ob_of (by decide +kernel)
theorem o130 : ob 130 9 := ob_of (by decide +kernel)
theorem o134 : ob 134 6 := ob_of (by decide +kernel)
theorem o249 : ob 249 11 := ob_of (by decide +kernel)
