def lg : List Cond := lw_tbl.filter goodWord
theorem mw {i : Nat} {w : Cond} (h : tables_1[i]? = some w) (hg : goodWord w = true := by rfl) : w ∈ lg := List.mem_filter.mpr ⟨List.mem_append_right _ (List.mem_of_getElem? h), hg⟩
theorem iwX0 : ∀ w ∈ u_ws RX0 TX0 3, w ∈ lg := by decide +kernel
theorem iwX1 : ∀ w ∈ u_ws RX1 TX1 4, w ∈ lg := by decide +kernel
theorem iwX2 : ∀ w ∈ u_ws RX2 TX2 3, w ∈ lg := by decide +kernel
theorem iwX3 : ∀ w ∈ u_ws RX3 TX3 7, w ∈ lg := by decide +kernel
theorem iwX4 : ∀ w ∈ u_ws RX4 TX4 7, w ∈ lg := by decide +kernel
theorem iwX5 : ∀ w ∈ u_ws RX5 TX5 9, w ∈ lg := by decide +kernel
theorem iwX6 : ∀ w ∈ u_ws RX6 TX6 10, w ∈ lg := by decide +kernel
theorem iwX7 : ∀ w ∈ u_ws RX7 TX7 12, w ∈ lg := by decide +kernel
theorem iwX8 : ∀ w ∈ u_ws RX8 TX8 3, w ∈ lg := by decide +kernel
theorem iwX9 : ∀ w ∈ u_ws RX9 TX9 4, w ∈ lg := by decide +kernel
theorem iwX11 : ∀ w ∈ u_ws RX11 TX11 12, w ∈ lg := by decide +kernel
theorem iwX12 : ∀ w ∈ u_ws RX12 TX12 31, w ∈ lg := by decide +kernel
/-- a field link: of the class c (its place in cl0) the field j -/
def FI (own : String) (idx c j : Nat) : Prop := ∃ (C : String) (T : u_T) (N : Nat) (ty : Nat → FieldType), cl0[c]? = some (C, T, N) ∧ j < N ∧ N = nfd c ∧ Cond.fieldLink own idx C (T j).2.1 (T j).2.2.1 ∈ lg ∧ (T j).1 = C ∧ (∀ w ∈ u_ws C T N, w ∈ lg) ∧ (∀ k, k < N → parseFieldDescriptor (T k).2.2.1 = some (ty k)) ∧ (∀ a, a < N → ∀ b, b < N → a ≠ b → (T a).2.1 ≠ (T b).2.1)
/-- the field is of such a type, and may be put -/
def FP (c j : Nat) (t : FieldType) : Prop := ∀ (C : String) (T : u_T) (N : Nat), cl0[c]? = some (C, T, N) → parseFieldDescriptor (T j).2.2.1 = some t ∧ (T j).2.2.2 = false
theorem fi_X5_9 : FI RX5 9 5 0 := ⟨RX5, TX5, 9, tyX5, rfl, by decide, rfl, mw (i := 41) (by decide +kernel), rfl, iwX5, tyX5_ok, nmX5⟩
theorem fi_X11_92 : FI RX11 92 5 1 := ⟨RX5, TX5, 9, tyX5, rfl, by decide, rfl, mw (i := 42) (by decide +kernel), rfl, iwX5, tyX5_ok, nmX5⟩
theorem fi_X5_15 : FI RX5 15 5 1 := ⟨RX5, TX5, 9, tyX5, rfl, by decide, rfl, mw (i := 43) (by decide +kernel), rfl, iwX5, tyX5_ok, nmX5⟩
theorem fi_X8_34 : FI RX8 34 5 2 := ⟨RX5, TX5, 9, tyX5, rfl, by decide, rfl, mw (i := 44) (by decide +kernel), rfl, iwX5, tyX5_ok, nmX5⟩
theorem fi_X3_39 : FI RX3 39 5 2 := ⟨RX5, TX5, 9, tyX5, rfl, by decide, rfl, mw (i := 45) (by decide +kernel), rfl, iwX5, tyX5_ok, nmX5⟩
theorem fi_X5_46 : FI RX5 46 5 2 := ⟨RX5, TX5, 9, tyX5, rfl, by decide, rfl, mw (i := 46) (by decide +kernel), rfl, iwX5, tyX5_ok, nmX5⟩
theorem fi_X0_56 : FI RX0 56 5 2 := ⟨RX5, TX5, 9, tyX5, rfl, by decide, rfl, mw (i := 47) (by decide +kernel), rfl, iwX5, tyX5_ok, nmX5⟩
theorem fi_X8_38 : FI RX8 38 5 3 := ⟨RX5, TX5, 9, tyX5, rfl, by decide, rfl, mw (i := 48) (by decide +kernel), rfl, iwX5, tyX5_ok, nmX5⟩
theorem fi_X3_42 : FI RX3 42 5 3 := ⟨RX5, TX5, 9, tyX5, rfl, by decide, rfl, mw (i := 49) (by decide +kernel), rfl, iwX5, tyX5_ok, nmX5⟩
theorem fi_X5_28 : FI RX5 28 5 3 := ⟨RX5, TX5, 9, tyX5, rfl, by decide, rfl, mw (i := 50) (by decide +kernel), rfl, iwX5, tyX5_ok, nmX5⟩
theorem fi_X0_36 : FI RX0 36 5 3 := ⟨RX5, TX5, 9, tyX5, rfl, by decide, rfl, mw (i := 51) (by decide +kernel), rfl, iwX5, tyX5_ok, nmX5⟩
theorem fi_X8_85 : FI RX8 85 5 4 := ⟨RX5, TX5, 9, tyX5, rfl, by decide, rfl, mw (i := 52) (by decide +kernel), rfl, iwX5, tyX5_ok, nmX5⟩
theorem fi_X5_32 : FI RX5 32 5 4 := ⟨RX5, TX5, 9, tyX5, rfl, by decide, rfl, mw (i := 53) (by decide +kernel), rfl, iwX5, tyX5_ok, nmX5⟩
theorem fi_X5_36 : FI RX5 36 5 5 := ⟨RX5, TX5, 9, tyX5, rfl, by decide, rfl, mw (i := 54) (by decide +kernel), rfl, iwX5, tyX5_ok, nmX5⟩
theorem fi_X0_80 : FI RX0 80 5 5 := ⟨RX5, TX5, 9, tyX5, rfl, by decide, rfl, mw (i := 55) (by decide +kernel), rfl, iwX5, tyX5_ok, nmX5⟩
theorem fi_X5_19 : FI RX5 19 5 6 := ⟨RX5, TX5, 9, tyX5, rfl, by decide, rfl, mw (i := 56) (by decide +kernel), rfl, iwX5, tyX5_ok, nmX5⟩
theorem fi_X8_123 : FI RX8 123 5 6 := ⟨RX5, TX5, 9, tyX5, rfl, by decide, rfl, mw (i := 57) (by decide +kernel), rfl, iwX5, tyX5_ok, nmX5⟩
theorem fi_X5_43 : FI RX5 43 5 7 := ⟨RX5, TX5, 9, tyX5, rfl, by decide, rfl, mw (i := 58) (by decide +kernel), rfl, iwX5, tyX5_ok, nmX5⟩
theorem fi_X5_22 : FI RX5 22 5 8 := ⟨RX5, TX5, 9, tyX5, rfl, by decide, rfl, mw (i := 59) (by decide +kernel), rfl, iwX5, tyX5_ok, nmX5⟩
theorem fi_X0_9 : FI RX0 9 0 0 := ⟨RX0, TX0, 3, tyX0, rfl, by decide, rfl, mw (i := 92) (by decide +kernel), rfl, iwX0, tyX0_ok, nmX0⟩
theorem fi_X0_15 : FI RX0 15 0 1 := ⟨RX0, TX0, 3, tyX0, rfl, by decide, rfl, mw (i := 93) (by decide +kernel), rfl, iwX0, tyX0_ok, nmX0⟩
theorem fi_X0_24 : FI RX0 24 0 2 := ⟨RX0, TX0, 3, tyX0, rfl, by decide, rfl, mw (i := 94) (by decide +kernel), rfl, iwX0, tyX0_ok, nmX0⟩
theorem fi_X8_188 : FI RX8 188 0 2 := ⟨RX0, TX0, 3, tyX0, rfl, by decide, rfl, mw (i := 95) (by decide +kernel), rfl, iwX0, tyX0_ok, nmX0⟩
theorem fi_X7_9 : FI RX7 9 7 0 := ⟨RX7, TX7, 12, tyX7, rfl, by decide, rfl, mw (i := 105) (by decide +kernel), rfl, iwX7, tyX7_ok, nmX7⟩
theorem fi_X3_91 : FI RX3 91 7 0 := ⟨RX7, TX7, 12, tyX7, rfl, by decide, rfl, mw (i := 106) (by decide +kernel), rfl, iwX7, tyX7_ok, nmX7⟩
theorem fi_X8_143 : FI RX8 143 7 0 := ⟨RX7, TX7, 12, tyX7, rfl, by decide, rfl, mw (i := 107) (by decide +kernel), rfl, iwX7, tyX7_ok, nmX7⟩
theorem fi_X7_15 : FI RX7 15 7 1 := ⟨RX7, TX7, 12, tyX7, rfl, by decide, rfl, mw (i := 108) (by decide +kernel), rfl, iwX7, tyX7_ok, nmX7⟩
theorem fi_X7_18 : FI RX7 18 7 2 := ⟨RX7, TX7, 12, tyX7, rfl, by decide, rfl, mw (i := 109) (by decide +kernel), rfl, iwX7, tyX7_ok, nmX7⟩
theorem fi_X3_79 : FI RX3 79 7 2 := ⟨RX7, TX7, 12, tyX7, rfl, by decide, rfl, mw (i := 110) (by decide +kernel), rfl, iwX7, tyX7_ok, nmX7⟩
theorem fi_X7_21 : FI RX7 21 7 3 := ⟨RX7, TX7, 12, tyX7, rfl, by decide, rfl, mw (i := 111) (by decide +kernel), rfl, iwX7, tyX7_ok, nmX7⟩
theorem fi_X11_135 : FI RX11 135 7 3 := ⟨RX7, TX7, 12, tyX7, rfl, by decide, rfl, mw (i := 112) (by decide +kernel), rfl, iwX7, tyX7_ok, nmX7⟩
theorem fi_X4_83 : FI RX4 83 7 3 := ⟨RX7, TX7, 12, tyX7, rfl, by decide, rfl, mw (i := 113) (by decide +kernel), rfl, iwX7, tyX7_ok, nmX7⟩
theorem fi_X7_25 : FI RX7 25 7 4 := ⟨RX7, TX7, 12, tyX7, rfl, by decide, rfl, mw (i := 114) (by decide +kernel), rfl, iwX7, tyX7_ok, nmX7⟩
theorem fi_X11_146 : FI RX11 146 7 4 := ⟨RX7, TX7, 12, tyX7, rfl, by decide, rfl, mw (i := 115) (by decide +kernel), rfl, iwX7, tyX7_ok, nmX7⟩
theorem fi_X8_171 : FI RX8 171 7 4 := ⟨RX7, TX7, 12, tyX7, rfl, by decide, rfl, mw (i := 116) (by decide +kernel), rfl, iwX7, tyX7_ok, nmX7⟩
theorem fi_X7_28 : FI RX7 28 7 5 := ⟨RX7, TX7, 12, tyX7, rfl, by decide, rfl, mw (i := 117) (by decide +kernel), rfl, iwX7, tyX7_ok, nmX7⟩
theorem fi_X9_54 : FI RX9 54 7 5 := ⟨RX7, TX7, 12, tyX7, rfl, by decide, rfl, mw (i := 118) (by decide +kernel), rfl, iwX7, tyX7_ok, nmX7⟩
theorem fi_X11_180 : FI RX11 180 7 5 := ⟨RX7, TX7, 12, tyX7, rfl, by decide, rfl, mw (i := 119) (by decide +kernel), rfl, iwX7, tyX7_ok, nmX7⟩
theorem fi_X4_96 : FI RX4 96 7 5 := ⟨RX7, TX7, 12, tyX7, rfl, by decide, rfl, mw (i := 120) (by decide +kernel), rfl, iwX7, tyX7_ok, nmX7⟩
theorem fi_X7_31 : FI RX7 31 7 6 := ⟨RX7, TX7, 12, tyX7, rfl, by decide, rfl, mw (i := 121) (by decide +kernel), rfl, iwX7, tyX7_ok, nmX7⟩
theorem fi_X9_67 : FI RX9 67 7 6 := ⟨RX7, TX7, 12, tyX7, rfl, by decide, rfl, mw (i := 122) (by decide +kernel), rfl, iwX7, tyX7_ok, nmX7⟩
theorem fi_X11_152 : FI RX11 152 7 6 := ⟨RX7, TX7, 12, tyX7, rfl, by decide, rfl, mw (i := 123) (by decide +kernel), rfl, iwX7, tyX7_ok, nmX7⟩
theorem fi_X4_80 : FI RX4 80 7 6 := ⟨RX7, TX7, 12, tyX7, rfl, by decide, rfl, mw (i := 124) (by decide +kernel), rfl, iwX7, tyX7_ok, nmX7⟩
theorem fi_X7_34 : FI RX7 34 7 7 := ⟨RX7, TX7, 12, tyX7, rfl, by decide, rfl, mw (i := 125) (by decide +kernel), rfl, iwX7, tyX7_ok, nmX7⟩
theorem fi_X4_28 : FI RX4 28 7 7 := ⟨RX7, TX7, 12, tyX7, rfl, by decide, rfl, mw (i := 126) (by decide +kernel), rfl, iwX7, tyX7_ok, nmX7⟩
theorem fi_X11_164 : FI RX11 164 7 7 := ⟨RX7, TX7, 12, tyX7, rfl, by decide, rfl, mw (i := 127) (by decide +kernel), rfl, iwX7, tyX7_ok, nmX7⟩
theorem fi_X7_40 : FI RX7 40 7 8 := ⟨RX7, TX7, 12, tyX7, rfl, by decide, rfl, mw (i := 128) (by decide +kernel), rfl, iwX7, tyX7_ok, nmX7⟩
theorem fi_X8_184 : FI RX8 184 7 8 := ⟨RX7, TX7, 12, tyX7, rfl, by decide, rfl, mw (i := 129) (by decide +kernel), rfl, iwX7, tyX7_ok, nmX7⟩
theorem fi_X4_64 : FI RX4 64 7 8 := ⟨RX7, TX7, 12, tyX7, rfl, by decide, rfl, mw (i := 130) (by decide +kernel), rfl, iwX7, tyX7_ok, nmX7⟩
theorem fi_X7_44 : FI RX7 44 7 9 := ⟨RX7, TX7, 12, tyX7, rfl, by decide, rfl, mw (i := 131) (by decide +kernel), rfl, iwX7, tyX7_ok, nmX7⟩
theorem fi_X6_67 : FI RX6 67 7 9 := ⟨RX7, TX7, 12, tyX7, rfl, by decide, rfl, mw (i := 132) (by decide +kernel), rfl, iwX7, tyX7_ok, nmX7⟩
theorem fi_X8_97 : FI RX8 97 7 9 := ⟨RX7, TX7, 12, tyX7, rfl, by decide, rfl, mw (i := 133) (by decide +kernel), rfl, iwX7, tyX7_ok, nmX7⟩
theorem fi_X3_94 : FI RX3 94 7 9 := ⟨RX7, TX7, 12, tyX7, rfl, by decide, rfl, mw (i := 134) (by decide +kernel), rfl, iwX7, tyX7_ok, nmX7⟩
theorem fi_X9_74 : FI RX9 74 7 9 := ⟨RX7, TX7, 12, tyX7, rfl, by decide, rfl, mw (i := 135) (by decide +kernel), rfl, iwX7, tyX7_ok, nmX7⟩
theorem fi_X11_183 : FI RX11 183 7 9 := ⟨RX7, TX7, 12, tyX7, rfl, by decide, rfl, mw (i := 136) (by decide +kernel), rfl, iwX7, tyX7_ok, nmX7⟩
theorem fi_X4_86 : FI RX4 86 7 9 := ⟨RX7, TX7, 12, tyX7, rfl, by decide, rfl, mw (i := 137) (by decide +kernel), rfl, iwX7, tyX7_ok, nmX7⟩
theorem fi_X7_48 : FI RX7 48 7 10 := ⟨RX7, TX7, 12, tyX7, rfl, by decide, rfl, mw (i := 138) (by decide +kernel), rfl, iwX7, tyX7_ok, nmX7⟩
theorem fi_X6_88 : FI RX6 88 7 10 := ⟨RX7, TX7, 12, tyX7, rfl, by decide, rfl, mw (i := 139) (by decide +kernel), rfl, iwX7, tyX7_ok, nmX7⟩
theorem fi_X8_130 : FI RX8 130 7 10 := ⟨RX7, TX7, 12, tyX7, rfl, by decide, rfl, mw (i := 140) (by decide +kernel), rfl, iwX7, tyX7_ok, nmX7⟩
theorem fi_X9_48 : FI RX9 48 7 10 := ⟨RX7, TX7, 12, tyX7, rfl, by decide, rfl, mw (i := 141) (by decide +kernel), rfl, iwX7, tyX7_ok, nmX7⟩
theorem fi_X11_186 : FI RX11 186 7 10 := ⟨RX7, TX7, 12, tyX7, rfl, by decide, rfl, mw (i := 142) (by decide +kernel), rfl, iwX7, tyX7_ok, nmX7⟩
theorem fi_X4_102 : FI RX4 102 7 10 := ⟨RX7, TX7, 12, tyX7, rfl, by decide, rfl, mw (i := 143) (by decide +kernel), rfl, iwX7, tyX7_ok, nmX7⟩
theorem fi_X7_51 : FI RX7 51 7 11 := ⟨RX7, TX7, 12, tyX7, rfl, by decide, rfl, mw (i := 144) (by decide +kernel), rfl, iwX7, tyX7_ok, nmX7⟩
theorem fi_X6_58 : FI RX6 58 7 11 := ⟨RX7, TX7, 12, tyX7, rfl, by decide, rfl, mw (i := 145) (by decide +kernel), rfl, iwX7, tyX7_ok, nmX7⟩
theorem fi_X3_85 : FI RX3 85 7 11 := ⟨RX7, TX7, 12, tyX7, rfl, by decide, rfl, mw (i := 146) (by decide +kernel), rfl, iwX7, tyX7_ok, nmX7⟩
theorem fi_X9_64 : FI RX9 64 7 11 := ⟨RX7, TX7, 12, tyX7, rfl, by decide, rfl, mw (i := 147) (by decide +kernel), rfl, iwX7, tyX7_ok, nmX7⟩
theorem fi_X8_151 : FI RX8 151 7 11 := ⟨RX7, TX7, 12, tyX7, rfl, by decide, rfl, mw (i := 148) (by decide +kernel), rfl, iwX7, tyX7_ok, nmX7⟩
theorem fi_X11_189 : FI RX11 189 7 11 := ⟨RX7, TX7, 12, tyX7, rfl, by decide, rfl, mw (i := 149) (by decide +kernel), rfl, iwX7, tyX7_ok, nmX7⟩
theorem fi_X4_61 : FI RX4 61 7 11 := ⟨RX7, TX7, 12, tyX7, rfl, by decide, rfl, mw (i := 150) (by decide +kernel), rfl, iwX7, tyX7_ok, nmX7⟩
theorem fi_X8_18 : FI RX8 18 8 0 := ⟨RX8, TX8, 3, tyX8, rfl, by decide, rfl, mw (i := 184) (by decide +kernel), rfl, iwX8, tyX8_ok, nmX8⟩
theorem fi_X8_12 : FI RX8 12 8 1 := ⟨RX8, TX8, 3, tyX8, rfl, by decide, rfl, mw (i := 185) (by decide +kernel), rfl, iwX8, tyX8_ok, nmX8⟩
theorem fi_X11_100 : FI RX11 100 8 1 := ⟨RX8, TX8, 3, tyX8, rfl, by decide, rfl, mw (i := 186) (by decide +kernel), rfl, iwX8, tyX8_ok, nmX8⟩
theorem fi_X8_25 : FI RX8 25 8 2 := ⟨RX8, TX8, 3, tyX8, rfl, by decide, rfl, mw (i := 187) (by decide +kernel), rfl, iwX8, tyX8_ok, nmX8⟩
theorem fi_X3_9 : FI RX3 9 3 0 := ⟨RX3, TX3, 7, tyX3, rfl, by decide, rfl, mw (i := 201) (by decide +kernel), rfl, iwX3, tyX3_ok, nmX3⟩
theorem fi_X3_15 : FI RX3 15 3 1 := ⟨RX3, TX3, 7, tyX3, rfl, by decide, rfl, mw (i := 202) (by decide +kernel), rfl, iwX3, tyX3_ok, nmX3⟩
theorem fi_X3_18 : FI RX3 18 3 2 := ⟨RX3, TX3, 7, tyX3, rfl, by decide, rfl, mw (i := 203) (by decide +kernel), rfl, iwX3, tyX3_ok, nmX3⟩
theorem fi_X3_21 : FI RX3 21 3 3 := ⟨RX3, TX3, 7, tyX3, rfl, by decide, rfl, mw (i := 204) (by decide +kernel), rfl, iwX3, tyX3_ok, nmX3⟩
theorem fi_X3_30 : FI RX3 30 3 4 := ⟨RX3, TX3, 7, tyX3, rfl, by decide, rfl, mw (i := 205) (by decide +kernel), rfl, iwX3, tyX3_ok, nmX3⟩
theorem fi_X11_119 : FI RX11 119 3 4 := ⟨RX3, TX3, 7, tyX3, rfl, by decide, rfl, mw (i := 206) (by decide +kernel), rfl, iwX3, tyX3_ok, nmX3⟩
theorem fi_X3_104 : FI RX3 104 3 5 := ⟨RX3, TX3, 7, tyX3, rfl, by decide, rfl, mw (i := 207) (by decide +kernel), rfl, iwX3, tyX3_ok, nmX3⟩
theorem fi_X11_249 : FI RX11 249 3 5 := ⟨RX3, TX3, 7, tyX3, rfl, by decide, rfl, mw (i := 208) (by decide +kernel), rfl, iwX3, tyX3_ok, nmX3⟩
theorem fi_X3_107 : FI RX3 107 3 6 := ⟨RX3, TX3, 7, tyX3, rfl, by decide, rfl, mw (i := 209) (by decide +kernel), rfl, iwX3, tyX3_ok, nmX3⟩
theorem fi_X11_252 : FI RX11 252 3 6 := ⟨RX3, TX3, 7, tyX3, rfl, by decide, rfl, mw (i := 210) (by decide +kernel), rfl, iwX3, tyX3_ok, nmX3⟩
theorem fi_X4_24 : FI RX4 24 4 0 := ⟨RX4, TX4, 7, tyX4, rfl, by decide, rfl, mw (i := 232) (by decide +kernel), rfl, iwX4, tyX4_ok, nmX4⟩
theorem fi_X6_52 : FI RX6 52 4 0 := ⟨RX4, TX4, 7, tyX4, rfl, by decide, rfl, mw (i := 233) (by decide +kernel), rfl, iwX4, tyX4_ok, nmX4⟩
theorem fi_X9_44 : FI RX9 44 4 0 := ⟨RX4, TX4, 7, tyX4, rfl, by decide, rfl, mw (i := 234) (by decide +kernel), rfl, iwX4, tyX4_ok, nmX4⟩
theorem fi_X4_9 : FI RX4 9 4 1 := ⟨RX4, TX4, 7, tyX4, rfl, by decide, rfl, mw (i := 235) (by decide +kernel), rfl, iwX4, tyX4_ok, nmX4⟩
theorem fi_X11_155 : FI RX11 155 4 1 := ⟨RX4, TX4, 7, tyX4, rfl, by decide, rfl, mw (i := 236) (by decide +kernel), rfl, iwX4, tyX4_ok, nmX4⟩
theorem fi_X9_91 : FI RX9 91 4 1 := ⟨RX4, TX4, 7, tyX4, rfl, by decide, rfl, mw (i := 237) (by decide +kernel), rfl, iwX4, tyX4_ok, nmX4⟩
theorem fi_X4_15 : FI RX4 15 4 2 := ⟨RX4, TX4, 7, tyX4, rfl, by decide, rfl, mw (i := 238) (by decide +kernel), rfl, iwX4, tyX4_ok, nmX4⟩
theorem fi_X11_158 : FI RX11 158 4 2 := ⟨RX4, TX4, 7, tyX4, rfl, by decide, rfl, mw (i := 239) (by decide +kernel), rfl, iwX4, tyX4_ok, nmX4⟩
theorem fi_X4_18 : FI RX4 18 4 3 := ⟨RX4, TX4, 7, tyX4, rfl, by decide, rfl, mw (i := 240) (by decide +kernel), rfl, iwX4, tyX4_ok, nmX4⟩
theorem fi_X11_161 : FI RX11 161 4 3 := ⟨RX4, TX4, 7, tyX4, rfl, by decide, rfl, mw (i := 241) (by decide +kernel), rfl, iwX4, tyX4_ok, nmX4⟩
theorem fi_X4_21 : FI RX4 21 4 4 := ⟨RX4, TX4, 7, tyX4, rfl, by decide, rfl, mw (i := 242) (by decide +kernel), rfl, iwX4, tyX4_ok, nmX4⟩
theorem fi_X9_102 : FI RX9 102 4 4 := ⟨RX4, TX4, 7, tyX4, rfl, by decide, rfl, mw (i := 243) (by decide +kernel), rfl, iwX4, tyX4_ok, nmX4⟩
theorem fi_X4_33 : FI RX4 33 4 5 := ⟨RX4, TX4, 7, tyX4, rfl, by decide, rfl, mw (i := 244) (by decide +kernel), rfl, iwX4, tyX4_ok, nmX4⟩
theorem fi_X11_192 : FI RX11 192 4 5 := ⟨RX4, TX4, 7, tyX4, rfl, by decide, rfl, mw (i := 245) (by decide +kernel), rfl, iwX4, tyX4_ok, nmX4⟩
theorem fi_X4_109 : FI RX4 109 4 6 := ⟨RX4, TX4, 7, tyX4, rfl, by decide, rfl, mw (i := 246) (by decide +kernel), rfl, iwX4, tyX4_ok, nmX4⟩
theorem fi_X11_328 : FI RX11 328 4 6 := ⟨RX4, TX4, 7, tyX4, rfl, by decide, rfl, mw (i := 247) (by decide +kernel), rfl, iwX4, tyX4_ok, nmX4⟩
theorem fi_X2_11 : FI RX2 11 2 0 := ⟨RX2, TX2, 3, tyX2, rfl, by decide, rfl, mw (i := 272) (by decide +kernel), rfl, iwX2, tyX2_ok, nmX2⟩
theorem fi_X2_28 : FI RX2 28 2 1 := ⟨RX2, TX2, 3, tyX2, rfl, by decide, rfl, mw (i := 273) (by decide +kernel), rfl, iwX2, tyX2_ok, nmX2⟩
theorem fi_X11_126 : FI RX11 126 2 1 := ⟨RX2, TX2, 3, tyX2, rfl, by decide, rfl, mw (i := 274) (by decide +kernel), rfl, iwX2, tyX2_ok, nmX2⟩
theorem fi_X2_20 : FI RX2 20 2 2 := ⟨RX2, TX2, 3, tyX2, rfl, by decide, rfl, mw (i := 275) (by decide +kernel), rfl, iwX2, tyX2_ok, nmX2⟩
theorem fi_X9_11 : FI RX9 11 9 0 := ⟨RX9, TX9, 4, tyX9, rfl, by decide, rfl, mw (i := 289) (by decide +kernel), rfl, iwX9, tyX9_ok, nmX9⟩
theorem fi_X1_36 : FI RX1 36 9 0 := ⟨RX9, TX9, 4, tyX9, rfl, by decide, rfl, mw (i := 290) (by decide +kernel), rfl, iwX9, tyX9_ok, nmX9⟩
theorem fi_X11_272 : FI RX11 272 9 0 := ⟨RX9, TX9, 4, tyX9, rfl, by decide, rfl, mw (i := 291) (by decide +kernel), rfl, iwX9, tyX9_ok, nmX9⟩
theorem fi_X9_15 : FI RX9 15 9 1 := ⟨RX9, TX9, 4, tyX9, rfl, by decide, rfl, mw (i := 292) (by decide +kernel), rfl, iwX9, tyX9_ok, nmX9⟩
theorem fi_X11_279 : FI RX11 279 9 1 := ⟨RX9, TX9, 4, tyX9, rfl, by decide, rfl, mw (i := 293) (by decide +kernel), rfl, iwX9, tyX9_ok, nmX9⟩
theorem fi_X9_21 : FI RX9 21 9 2 := ⟨RX9, TX9, 4, tyX9, rfl, by decide, rfl, mw (i := 294) (by decide +kernel), rfl, iwX9, tyX9_ok, nmX9⟩
theorem fi_X9_18 : FI RX9 18 9 3 := ⟨RX9, TX9, 4, tyX9, rfl, by decide, rfl, mw (i := 295) (by decide +kernel), rfl, iwX9, tyX9_ok, nmX9⟩
theorem fi_X6_9 : FI RX6 9 6 0 := ⟨RX6, TX6, 10, tyX6, rfl, by decide, rfl, mw (i := 313) (by decide +kernel), rfl, iwX6, tyX6_ok, nmX6⟩
theorem fi_X6_15 : FI RX6 15 6 1 := ⟨RX6, TX6, 10, tyX6, rfl, by decide, rfl, mw (i := 314) (by decide +kernel), rfl, iwX6, tyX6_ok, nmX6⟩
theorem fi_X6_18 : FI RX6 18 6 2 := ⟨RX6, TX6, 10, tyX6, rfl, by decide, rfl, mw (i := 315) (by decide +kernel), rfl, iwX6, tyX6_ok, nmX6⟩
theorem fi_X6_39 : FI RX6 39 6 3 := ⟨RX6, TX6, 10, tyX6, rfl, by decide, rfl, mw (i := 316) (by decide +kernel), rfl, iwX6, tyX6_ok, nmX6⟩
theorem fi_X11_125 : FI RX11 125 6 3 := ⟨RX6, TX6, 10, tyX6, rfl, by decide, rfl, mw (i := 317) (by decide +kernel), rfl, iwX6, tyX6_ok, nmX6⟩
theorem fi_X6_43 : FI RX6 43 6 4 := ⟨RX6, TX6, 10, tyX6, rfl, by decide, rfl, mw (i := 318) (by decide +kernel), rfl, iwX6, tyX6_ok, nmX6⟩
theorem fi_X11_289 : FI RX11 289 6 4 := ⟨RX6, TX6, 10, tyX6, rfl, by decide, rfl, mw (i := 319) (by decide +kernel), rfl, iwX6, tyX6_ok, nmX6⟩
theorem fi_X6_46 : FI RX6 46 6 5 := ⟨RX6, TX6, 10, tyX6, rfl, by decide, rfl, mw (i := 320) (by decide +kernel), rfl, iwX6, tyX6_ok, nmX6⟩
theorem fi_X11_292 : FI RX11 292 6 5 := ⟨RX6, TX6, 10, tyX6, rfl, by decide, rfl, mw (i := 321) (by decide +kernel), rfl, iwX6, tyX6_ok, nmX6⟩
theorem fi_X6_49 : FI RX6 49 6 6 := ⟨RX6, TX6, 10, tyX6, rfl, by decide, rfl, mw (i := 322) (by decide +kernel), rfl, iwX6, tyX6_ok, nmX6⟩
theorem fi_X11_295 : FI RX11 295 6 6 := ⟨RX6, TX6, 10, tyX6, rfl, by decide, rfl, mw (i := 323) (by decide +kernel), rfl, iwX6, tyX6_ok, nmX6⟩
theorem fi_X6_29 : FI RX6 29 6 7 := ⟨RX6, TX6, 10, tyX6, rfl, by decide, rfl, mw (i := 324) (by decide +kernel), rfl, iwX6, tyX6_ok, nmX6⟩
theorem fi_X6_23 : FI RX6 23 6 8 := ⟨RX6, TX6, 10, tyX6, rfl, by decide, rfl, mw (i := 325) (by decide +kernel), rfl, iwX6, tyX6_ok, nmX6⟩
theorem fi_X6_26 : FI RX6 26 6 9 := ⟨RX6, TX6, 10, tyX6, rfl, by decide, rfl, mw (i := 326) (by decide +kernel), rfl, iwX6, tyX6_ok, nmX6⟩
theorem fi_X1_20 : FI RX1 20 1 0 := ⟨RX1, TX1, 4, tyX1, rfl, by decide, rfl, mw (i := 359) (by decide +kernel), rfl, iwX1, tyX1_ok, nmX1⟩
theorem fi_X1_9 : FI RX1 9 1 1 := ⟨RX1, TX1, 4, tyX1, rfl, by decide, rfl, mw (i := 360) (by decide +kernel), rfl, iwX1, tyX1_ok, nmX1⟩
theorem fi_X1_29 : FI RX1 29 1 2 := ⟨RX1, TX1, 4, tyX1, rfl, by decide, rfl, mw (i := 361) (by decide +kernel), rfl, iwX1, tyX1_ok, nmX1⟩
theorem fi_X1_48 : FI RX1 48 1 3 := ⟨RX1, TX1, 4, tyX1, rfl, by decide, rfl, mw (i := 362) (by decide +kernel), rfl, iwX1, tyX1_ok, nmX1⟩
theorem fi_X11_127 : FI RX11 127 1 3 := ⟨RX1, TX1, 4, tyX1, rfl, by decide, rfl, mw (i := 363) (by decide +kernel), rfl, iwX1, tyX1_ok, nmX1⟩
theorem fi_X11_10 : FI RX11 10 10 0 := ⟨RX11, TX11, 12, tyX11, rfl, by decide, rfl, mw (i := 373) (by decide +kernel), rfl, iwX11, tyX11_ok, nmX11⟩
theorem fi_X11_19 : FI RX11 19 10 1 := ⟨RX11, TX11, 12, tyX11, rfl, by decide, rfl, mw (i := 374) (by decide +kernel), rfl, iwX11, tyX11_ok, nmX11⟩
theorem fi_X11_28 : FI RX11 28 10 2 := ⟨RX11, TX11, 12, tyX11, rfl, by decide, rfl, mw (i := 375) (by decide +kernel), rfl, iwX11, tyX11_ok, nmX11⟩
theorem fi_X11_35 : FI RX11 35 10 3 := ⟨RX11, TX11, 12, tyX11, rfl, by decide, rfl, mw (i := 376) (by decide +kernel), rfl, iwX11, tyX11_ok, nmX11⟩
theorem fi_X11_39 : FI RX11 39 10 4 := ⟨RX11, TX11, 12, tyX11, rfl, by decide, rfl, mw (i := 377) (by decide +kernel), rfl, iwX11, tyX11_ok, nmX11⟩
theorem fi_X11_47 : FI RX11 47 10 5 := ⟨RX11, TX11, 12, tyX11, rfl, by decide, rfl, mw (i := 378) (by decide +kernel), rfl, iwX11, tyX11_ok, nmX11⟩
theorem fi_X11_51 : FI RX11 51 10 6 := ⟨RX11, TX11, 12, tyX11, rfl, by decide, rfl, mw (i := 379) (by decide +kernel), rfl, iwX11, tyX11_ok, nmX11⟩
theorem fi_X11_57 : FI RX11 57 10 7 := ⟨RX11, TX11, 12, tyX11, rfl, by decide, rfl, mw (i := 380) (by decide +kernel), rfl, iwX11, tyX11_ok, nmX11⟩
theorem fi_X11_66 : FI RX11 66 10 8 := ⟨RX11, TX11, 12, tyX11, rfl, by decide, rfl, mw (i := 381) (by decide +kernel), rfl, iwX11, tyX11_ok, nmX11⟩
theorem fi_X11_73 : FI RX11 73 10 9 := ⟨RX11, TX11, 12, tyX11, rfl, by decide, rfl, mw (i := 382) (by decide +kernel), rfl, iwX11, tyX11_ok, nmX11⟩
theorem fi_X11_79 : FI RX11 79 10 10 := ⟨RX11, TX11, 12, tyX11, rfl, by decide, rfl, mw (i := 383) (by decide +kernel), rfl, iwX11, tyX11_ok, nmX11⟩
theorem fi_X11_84 : FI RX11 84 10 11 := ⟨RX11, TX11, 12, tyX11, rfl, by decide, rfl, mw (i := 384) (by decide +kernel), rfl, iwX11, tyX11_ok, nmX11⟩
theorem fi_X12_1 : FI RX12 1 11 0 := ⟨RX12, TX12, 31, tyX12, rfl, by decide, rfl, mw (i := 1314) (by decide +kernel), rfl, iwX12, tyX12_ok, nmX12⟩
theorem fi_X12_14 : FI RX12 14 11 1 := ⟨RX12, TX12, 31, tyX12, rfl, by decide, rfl, mw (i := 1315) (by decide +kernel), rfl, iwX12, tyX12_ok, nmX12⟩
theorem fi_X12_11 : FI RX12 11 11 2 := ⟨RX12, TX12, 31, tyX12, rfl, by decide, rfl, mw (i := 1316) (by decide +kernel), rfl, iwX12, tyX12_ok, nmX12⟩
theorem fi_X12_140 : FI RX12 140 11 3 := ⟨RX12, TX12, 31, tyX12, rfl, by decide, rfl, mw (i := 1317) (by decide +kernel), rfl, iwX12, tyX12_ok, nmX12⟩
theorem fi_X12_24 : FI RX12 24 11 4 := ⟨RX12, TX12, 31, tyX12, rfl, by decide, rfl, mw (i := 1318) (by decide +kernel), rfl, iwX12, tyX12_ok, nmX12⟩
theorem fi_X12_27 : FI RX12 27 11 5 := ⟨RX12, TX12, 31, tyX12, rfl, by decide, rfl, mw (i := 1319) (by decide +kernel), rfl, iwX12, tyX12_ok, nmX12⟩
theorem fi_X12_30 : FI RX12 30 11 6 := ⟨RX12, TX12, 31, tyX12, rfl, by decide, rfl, mw (i := 1320) (by decide +kernel), rfl, iwX12, tyX12_ok, nmX12⟩
theorem fi_X12_159 : FI RX12 159 11 7 := ⟨RX12, TX12, 31, tyX12, rfl, by decide, rfl, mw (i := 1321) (by decide +kernel), rfl, iwX12, tyX12_ok, nmX12⟩
theorem fi_X12_162 : FI RX12 162 11 8 := ⟨RX12, TX12, 31, tyX12, rfl, by decide, rfl, mw (i := 1322) (by decide +kernel), rfl, iwX12, tyX12_ok, nmX12⟩
theorem fi_X12_80 : FI RX12 80 11 9 := ⟨RX12, TX12, 31, tyX12, rfl, by decide, rfl, mw (i := 1323) (by decide +kernel), rfl, iwX12, tyX12_ok, nmX12⟩
theorem fi_X12_83 : FI RX12 83 11 10 := ⟨RX12, TX12, 31, tyX12, rfl, by decide, rfl, mw (i := 1324) (by decide +kernel), rfl, iwX12, tyX12_ok, nmX12⟩
theorem fi_X12_86 : FI RX12 86 11 11 := ⟨RX12, TX12, 31, tyX12, rfl, by decide, rfl, mw (i := 1325) (by decide +kernel), rfl, iwX12, tyX12_ok, nmX12⟩
theorem fi_X12_89 : FI RX12 89 11 12 := ⟨RX12, TX12, 31, tyX12, rfl, by decide, rfl, mw (i := 1326) (by decide +kernel), rfl, iwX12, tyX12_ok, nmX12⟩
theorem fi_X12_212 : FI RX12 212 11 13 := ⟨RX12, TX12, 31, tyX12, rfl, by decide, rfl, mw (i := 1327) (by decide +kernel), rfl, iwX12, tyX12_ok, nmX12⟩
theorem fi_X12_92 : FI RX12 92 11 14 := ⟨RX12, TX12, 31, tyX12, rfl, by decide, rfl, mw (i := 1328) (by decide +kernel), rfl, iwX12, tyX12_ok, nmX12⟩
theorem fi_X12_95 : FI RX12 95 11 15 := ⟨RX12, TX12, 31, tyX12, rfl, by decide, rfl, mw (i := 1329) (by decide +kernel), rfl, iwX12, tyX12_ok, nmX12⟩
theorem fi_X12_98 : FI RX12 98 11 16 := ⟨RX12, TX12, 31, tyX12, rfl, by decide, rfl, mw (i := 1330) (by decide +kernel), rfl, iwX12, tyX12_ok, nmX12⟩
theorem fi_X12_101 : FI RX12 101 11 17 := ⟨RX12, TX12, 31, tyX12, rfl, by decide, rfl, mw (i := 1331) (by decide +kernel), rfl, iwX12, tyX12_ok, nmX12⟩
theorem fi_X12_190 : FI RX12 190 11 18 := ⟨RX12, TX12, 31, tyX12, rfl, by decide, rfl, mw (i := 1332) (by decide +kernel), rfl, iwX12, tyX12_ok, nmX12⟩
theorem fi_X12_187 : FI RX12 187 11 19 := ⟨RX12, TX12, 31, tyX12, rfl, by decide, rfl, mw (i := 1333) (by decide +kernel), rfl, iwX12, tyX12_ok, nmX12⟩
theorem fi_X12_104 : FI RX12 104 11 20 := ⟨RX12, TX12, 31, tyX12, rfl, by decide, rfl, mw (i := 1334) (by decide +kernel), rfl, iwX12, tyX12_ok, nmX12⟩
theorem fi_X12_107 : FI RX12 107 11 21 := ⟨RX12, TX12, 31, tyX12, rfl, by decide, rfl, mw (i := 1335) (by decide +kernel), rfl, iwX12, tyX12_ok, nmX12⟩
theorem fi_X12_110 : FI RX12 110 11 22 := ⟨RX12, TX12, 31, tyX12, rfl, by decide, rfl, mw (i := 1336) (by decide +kernel), rfl, iwX12, tyX12_ok, nmX12⟩
theorem fi_X12_113 : FI RX12 113 11 23 := ⟨RX12, TX12, 31, tyX12, rfl, by decide, rfl, mw (i := 1337) (by decide +kernel), rfl, iwX12, tyX12_ok, nmX12⟩
theorem fi_X12_279 : FI RX12 279 11 24 := ⟨RX12, TX12, 31, tyX12, rfl, by decide, rfl, mw (i := 1338) (by decide +kernel), rfl, iwX12, tyX12_ok, nmX12⟩
theorem fi_X12_116 : FI RX12 116 11 25 := ⟨RX12, TX12, 31, tyX12, rfl, by decide, rfl, mw (i := 1339) (by decide +kernel), rfl, iwX12, tyX12_ok, nmX12⟩
theorem fi_X12_120 : FI RX12 120 11 26 := ⟨RX12, TX12, 31, tyX12, rfl, by decide, rfl, mw (i := 1340) (by decide +kernel), rfl, iwX12, tyX12_ok, nmX12⟩
theorem fi_X12_123 : FI RX12 123 11 27 := ⟨RX12, TX12, 31, tyX12, rfl, by decide, rfl, mw (i := 1341) (by decide +kernel), rfl, iwX12, tyX12_ok, nmX12⟩
theorem fi_X12_364 : FI RX12 364 11 28 := ⟨RX12, TX12, 31, tyX12, rfl, by decide, rfl, mw (i := 1342) (by decide +kernel), rfl, iwX12, tyX12_ok, nmX12⟩
theorem fi_X12_126 : FI RX12 126 11 29 := ⟨RX12, TX12, 31, tyX12, rfl, by decide, rfl, mw (i := 1343) (by decide +kernel), rfl, iwX12, tyX12_ok, nmX12⟩
theorem fi_X12_401 : FI RX12 401 11 30 := ⟨RX12, TX12, 31, tyX12, rfl, by decide, rfl, mw (i := 1344) (by decide +kernel), rfl, iwX12, tyX12_ok, nmX12⟩
theorem fp_X0_2 : FP 0 2 .int := by
  intro C T N h
  obtain ⟨rfl, rfl, rfl⟩ : RX0 = C ∧ TX0 = T ∧ 3 = N := by simpa [cl0] using h
  exact ⟨by decide +kernel, rfl⟩
theorem fp_X1_3 : FP 1 3 .boolean := by
  intro C T N h
  obtain ⟨rfl, rfl, rfl⟩ : RX1 = C ∧ TX1 = T ∧ 4 = N := by simpa [cl0] using h
  exact ⟨by decide +kernel, rfl⟩
theorem fp_X2_1 : FP 2 1 .int := by
  intro C T N h
  obtain ⟨rfl, rfl, rfl⟩ : RX2 = C ∧ TX2 = T ∧ 3 = N := by simpa [cl0] using h
  exact ⟨by decide +kernel, rfl⟩
theorem fp_X2_2 : FP 2 2 .int := by
  intro C T N h
  obtain ⟨rfl, rfl, rfl⟩ : RX2 = C ∧ TX2 = T ∧ 3 = N := by simpa [cl0] using h
  exact ⟨by decide +kernel, rfl⟩
theorem fp_X3_4 : FP 3 4 .int := by
  intro C T N h
  obtain ⟨rfl, rfl, rfl⟩ : RX3 = C ∧ TX3 = T ∧ 7 = N := by simpa [cl0] using h
  exact ⟨by decide +kernel, rfl⟩
theorem fp_X3_5 : FP 3 5 .int := by
  intro C T N h
  obtain ⟨rfl, rfl, rfl⟩ : RX3 = C ∧ TX3 = T ∧ 7 = N := by simpa [cl0] using h
  exact ⟨by decide +kernel, rfl⟩
theorem fp_X3_6 : FP 3 6 .int := by
  intro C T N h
  obtain ⟨rfl, rfl, rfl⟩ : RX3 = C ∧ TX3 = T ∧ 7 = N := by simpa [cl0] using h
  exact ⟨by decide +kernel, rfl⟩
theorem fp_X4_5 : FP 4 5 .int := by
  intro C T N h
  obtain ⟨rfl, rfl, rfl⟩ : RX4 = C ∧ TX4 = T ∧ 7 = N := by simpa [cl0] using h
  exact ⟨by decide +kernel, rfl⟩
theorem fp_X4_6 : FP 4 6 .long := by
  intro C T N h
  obtain ⟨rfl, rfl, rfl⟩ : RX4 = C ∧ TX4 = T ∧ 7 = N := by simpa [cl0] using h
  exact ⟨by decide +kernel, rfl⟩
theorem fp_X5_1 : FP 5 1 .int := by
  intro C T N h
  obtain ⟨rfl, rfl, rfl⟩ : RX5 = C ∧ TX5 = T ∧ 9 = N := by simpa [cl0] using h
  exact ⟨by decide +kernel, rfl⟩
theorem fp_X5_2 : FP 5 2 .int := by
  intro C T N h
  obtain ⟨rfl, rfl, rfl⟩ : RX5 = C ∧ TX5 = T ∧ 9 = N := by simpa [cl0] using h
  exact ⟨by decide +kernel, rfl⟩
theorem fp_X5_3 : FP 5 3 (.object "LaundrySky$Word") := by
  intro C T N h
  obtain ⟨rfl, rfl, rfl⟩ : RX5 = C ∧ TX5 = T ∧ 9 = N := by simpa [cl0] using h
  exact ⟨by decide +kernel, rfl⟩
theorem fp_X5_4 : FP 5 4 .long := by
  intro C T N h
  obtain ⟨rfl, rfl, rfl⟩ : RX5 = C ∧ TX5 = T ∧ 9 = N := by simpa [cl0] using h
  exact ⟨by decide +kernel, rfl⟩
theorem fp_X5_5 : FP 5 5 .int := by
  intro C T N h
  obtain ⟨rfl, rfl, rfl⟩ : RX5 = C ∧ TX5 = T ∧ 9 = N := by simpa [cl0] using h
  exact ⟨by decide +kernel, rfl⟩
theorem fp_X5_6 : FP 5 6 .int := by
  intro C T N h
  obtain ⟨rfl, rfl, rfl⟩ : RX5 = C ∧ TX5 = T ∧ 9 = N := by simpa [cl0] using h
  exact ⟨by decide +kernel, rfl⟩
theorem fp_X5_7 : FP 5 7 .int := by
  intro C T N h
  obtain ⟨rfl, rfl, rfl⟩ : RX5 = C ∧ TX5 = T ∧ 9 = N := by simpa [cl0] using h
  exact ⟨by decide +kernel, rfl⟩
theorem fp_X5_8 : FP 5 8 .int := by
  intro C T N h
  obtain ⟨rfl, rfl, rfl⟩ : RX5 = C ∧ TX5 = T ∧ 9 = N := by simpa [cl0] using h
  exact ⟨by decide +kernel, rfl⟩
theorem fp_X6_3 : FP 6 3 .int := by
  intro C T N h
  obtain ⟨rfl, rfl, rfl⟩ : RX6 = C ∧ TX6 = T ∧ 10 = N := by simpa [cl0] using h
  exact ⟨by decide +kernel, rfl⟩
theorem fp_X6_4 : FP 6 4 .int := by
  intro C T N h
  obtain ⟨rfl, rfl, rfl⟩ : RX6 = C ∧ TX6 = T ∧ 10 = N := by simpa [cl0] using h
  exact ⟨by decide +kernel, rfl⟩
theorem fp_X6_5 : FP 6 5 .int := by
  intro C T N h
  obtain ⟨rfl, rfl, rfl⟩ : RX6 = C ∧ TX6 = T ∧ 10 = N := by simpa [cl0] using h
  exact ⟨by decide +kernel, rfl⟩
theorem fp_X6_6 : FP 6 6 .int := by
  intro C T N h
  obtain ⟨rfl, rfl, rfl⟩ : RX6 = C ∧ TX6 = T ∧ 10 = N := by simpa [cl0] using h
  exact ⟨by decide +kernel, rfl⟩
theorem fp_X7_9 : FP 7 9 .int := by
  intro C T N h
  obtain ⟨rfl, rfl, rfl⟩ : RX7 = C ∧ TX7 = T ∧ 12 = N := by simpa [cl0] using h
  exact ⟨by decide +kernel, rfl⟩
theorem fp_X7_10 : FP 7 10 .int := by
  intro C T N h
  obtain ⟨rfl, rfl, rfl⟩ : RX7 = C ∧ TX7 = T ∧ 12 = N := by simpa [cl0] using h
  exact ⟨by decide +kernel, rfl⟩
theorem fp_X7_11 : FP 7 11 .int := by
  intro C T N h
  obtain ⟨rfl, rfl, rfl⟩ : RX7 = C ∧ TX7 = T ∧ 12 = N := by simpa [cl0] using h
  exact ⟨by decide +kernel, rfl⟩
theorem fp_X8_2 : FP 8 2 .boolean := by
  intro C T N h
  obtain ⟨rfl, rfl, rfl⟩ : RX8 = C ∧ TX8 = T ∧ 3 = N := by simpa [cl0] using h
  exact ⟨by decide +kernel, rfl⟩
theorem fp_X12_0 : FP 11 0 .int := by
  intro C T N h
  obtain ⟨rfl, rfl, rfl⟩ : RX12 = C ∧ TX12 = T ∧ 31 = N := by simpa [cl0] using h
  exact ⟨by decide +kernel, rfl⟩
theorem fp_X12_2 : FP 11 2 .int := by
  intro C T N h
  obtain ⟨rfl, rfl, rfl⟩ : RX12 = C ∧ TX12 = T ∧ 31 = N := by simpa [cl0] using h
  exact ⟨by decide +kernel, rfl⟩
theorem fp_X12_3 : FP 11 3 .int := by
  intro C T N h
  obtain ⟨rfl, rfl, rfl⟩ : RX12 = C ∧ TX12 = T ∧ 31 = N := by simpa [cl0] using h
  exact ⟨by decide +kernel, rfl⟩
theorem fp_X12_7 : FP 11 7 .int := by
  intro C T N h
  obtain ⟨rfl, rfl, rfl⟩ : RX12 = C ∧ TX12 = T ∧ 31 = N := by simpa [cl0] using h
  exact ⟨by decide +kernel, rfl⟩
theorem fp_X12_8 : FP 11 8 .int := by
  intro C T N h
  obtain ⟨rfl, rfl, rfl⟩ : RX12 = C ∧ TX12 = T ∧ 31 = N := by simpa [cl0] using h
  exact ⟨by decide +kernel, rfl⟩
theorem fp_X12_13 : FP 11 13 .int := by
  intro C T N h
  obtain ⟨rfl, rfl, rfl⟩ : RX12 = C ∧ TX12 = T ∧ 31 = N := by simpa [cl0] using h
  exact ⟨by decide +kernel, rfl⟩
theorem fp_X12_18 : FP 11 18 .int := by
  intro C T N h
  obtain ⟨rfl, rfl, rfl⟩ : RX12 = C ∧ TX12 = T ∧ 31 = N := by simpa [cl0] using h
  exact ⟨by decide +kernel, rfl⟩
theorem fp_X12_19 : FP 11 19 .int := by
  intro C T N h
  obtain ⟨rfl, rfl, rfl⟩ : RX12 = C ∧ TX12 = T ∧ 31 = N := by simpa [cl0] using h
  exact ⟨by decide +kernel, rfl⟩
theorem fp_X12_24 : FP 11 24 .int := by
  intro C T N h
  obtain ⟨rfl, rfl, rfl⟩ : RX12 = C ∧ TX12 = T ∧ 31 = N := by simpa [cl0] using h
  exact ⟨by decide +kernel, rfl⟩
theorem fp_X12_28 : FP 11 28 .int := by
  intro C T N h
  obtain ⟨rfl, rfl, rfl⟩ : RX12 = C ∧ TX12 = T ∧ 31 = N := by simpa [cl0] using h
  exact ⟨by decide +kernel, rfl⟩
theorem fp_X12_30 : FP 11 30 .long := by
  intro C T N h
  obtain ⟨rfl, rfl, rfl⟩ : RX12 = C ∧ TX12 = T ∧ 31 = N := by simpa [cl0] using h
  exact ⟨by decide +kernel, rfl⟩
