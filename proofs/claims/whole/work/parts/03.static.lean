/-! ===== the static picture: classes, shapes of the cells that the constructors make, final references ===== -/
def cl0 : List vw_C := [(RX0, TX0, 3), (RX1, TX1, 4), (RX2, TX2, 3), (RX3, TX3, 7), (RX4, TX4, 7), (RX5, TX5, 9), (RX6, TX6, 10), (RX7, TX7, 12), (RX8, TX8, 3), (RX9, TX9, 4), (RX11, TX11, 12), (RX12, TX12, 31)]
def ftab : List (List Nat) := [[2, 2, 0], [2, 2, 2, 0], [2, 0, 0], [2, 2, 2, 2, 0, 0, 0], [2, 2, 2, 2, 2, 0, 1], [2, 0, 0, 3, 1, 0, 0, 0, 0], [2, 2, 2, 0, 0, 0, 0, 2, 2, 2], [2, 2, 2, 2, 2, 2, 2, 2, 2, 0, 0, 0], [2, 2, 0], [2, 2, 2, 2], [2, 2, 2, 2, 2, 2, 2, 2, 2, 2, 2, 2], [0, 2, 0, 0, 2, 2, 2, 0, 0, 2, 2, 2, 2, 0, 2, 2, 2, 2, 0, 0, 2, 2, 2, 2, 0, 2, 2, 2, 0, 2, 1]]
def nfl : List Nat := [3, 4, 3, 7, 7, 9, 10, 12, 3, 4, 12, 31]
def shp : List (Nat × Nat) := [(10, 0), (5, 0), (102, 1000), (7, 0), (101, 5), (101, 4), (101, 6), (100, 5), (100, 5), (100, 4), (100, 6), (100, 6), (0, 0), (100, 1000), (100, 24), (8, 0), (7, 0), (101, 5), (101, 4), (101, 6), (100, 5), (100, 5), (100, 4), (100, 6), (100, 6), (0, 0), (100, 1000), (100, 24), (3, 0), (100, 40), (100, 40), (100, 40), (100, 40), (3, 0), (100, 40), (100, 40), (100, 40), (100, 40), (4, 0), (100, 6), (100, 6), (100, 6), (100, 4), (4, 0), (100, 6), (100, 6), (100, 6), (100, 4), (2, 0), (104, 16), (4, 0), (100, 6), (100, 6), (100, 6), (100, 4), (4, 0), (100, 6), (100, 6), (100, 6), (100, 4), (4, 0), (100, 6), (100, 6), (100, 6), (100, 4), (4, 0), (100, 6), (100, 6), (100, 6), (100, 4), (4, 0), (100, 6), (100, 6), (100, 6), (100, 4), (4, 0), (100, 6), (100, 6), (100, 6), (100, 4), (4, 0), (100, 6), (100, 6), (100, 6), (100, 4), (4, 0), (100, 6), (100, 6), (100, 6), (100, 4), (4, 0), (100, 6), (100, 6), (100, 6), (100, 4), (4, 0), (100, 6), (100, 6), (100, 6), (100, 4), (4, 0), (100, 6), (100, 6), (100, 6), (100, 4), (4, 0), (100, 6), (100, 6), (100, 6), (100, 4), (4, 0), (100, 6), (100, 6), (100, 6), (100, 4), (4, 0), (100, 6), (100, 6), (100, 6), (100, 4), (4, 0), (100, 6), (100, 6), (100, 6), (100, 4), (4, 0), (100, 6), (100, 6), (100, 6), (100, 4), (9, 0), (100, 4), (100, 6), (100, 4), (6, 0), (100, 6), (100, 6), (100, 6), (106, 4), (100, 5), (100, 5), (100, 5), (100, 5), (100, 4), (105, 4), (1, 0), (100, 4), (4, 0), (100, 6), (100, 6), (100, 6), (100, 4), (6, 0), (100, 6), (100, 6), (100, 6), (106, 4), (100, 5), (100, 5), (100, 5), (100, 5), (100, 4), (1, 0), (100, 4), (4, 0), (100, 6), (100, 6), (100, 6), (100, 4), (6, 0), (100, 6), (100, 6), (100, 6), (106, 4), (100, 5), (100, 5), (100, 5), (100, 5), (100, 4), (1, 0), (100, 4), (4, 0), (100, 6), (100, 6), (100, 6), (100, 4), (6, 0), (100, 6), (100, 6), (100, 6), (106, 4), (100, 5), (100, 5), (100, 5), (100, 5), (100, 4), (1, 0), (100, 4), (4, 0), (100, 6), (100, 6), (100, 6), (100, 4), (6, 0), (100, 6), (100, 6), (100, 6), (106, 4), (100, 5), (100, 5), (100, 5), (100, 5), (100, 4), (104, 7), (4, 0), (100, 6), (100, 6), (100, 6), (100, 4), (4, 0), (100, 6), (100, 6), (100, 6), (100, 4), (4, 0), (100, 6), (100, 6), (100, 6), (100, 4), (4, 0), (100, 6), (100, 6), (100, 6), (100, 4), (4, 0), (100, 6), (100, 6), (100, 6), (100, 4), (4, 0), (100, 6), (100, 6), (100, 6), (100, 4), (4, 0), (100, 6), (100, 6), (100, 6), (100, 4), (11, 0), (100, 1000), (100, 1002), (100, 1002), (101, 1002), (101, 23), (100, 80), (100, 2200), (100, 2200), (101, 15), (101, 15), (100, 15), (100, 15), (100, 330), (100, 4), (100, 1100), (100, 966), (103, 4), (100, 6), (100, 6), (100, 20), (101, 1)]
def rft : List (List Nat) := [[1, 3, 15, 28, 33, 38, 43, 48, 130, 134, 144, 213], [2, 0, 0, 0, 0, 0, 0, 0, 0], [], [4, 5, 6, 7, 8, 9, 10, 11, 12, 0, 0, 0], [], [], [], [], [], [], [], [], [13, 14, 0], [], [], [1, 16, 0], [17, 18, 19, 20, 21, 22, 23, 24, 25, 0, 0, 0], [], [], [], [], [], [], [], [], [26, 27, 0], [], [], [29, 30, 31, 32, 0, 0, 0], [], [], [], [], [34, 35, 36, 37, 0, 0, 0], [], [], [], [], [3, 39, 40, 41, 42, 0, 0], [], [], [], [], [3, 44, 45, 46, 47, 0, 0], [], [], [], [], [49, 0, 0], [50, 55, 60, 65, 70, 75, 80, 85, 90, 95, 100, 105, 110, 115, 120, 125], [3, 51, 52, 53, 54, 0, 0], [], [], [], [], [3, 56, 57, 58, 59, 0, 0], [], [], [], [], [3, 61, 62, 63, 64, 0, 0], [], [], [], [], [3, 66, 67, 68, 69, 0, 0], [], [], [], [], [3, 71, 72, 73, 74, 0, 0], [], [], [], [], [3, 76, 77, 78, 79, 0, 0], [], [], [], [], [3, 81, 82, 83, 84, 0, 0], [], [], [], [], [3, 86, 87, 88, 89, 0, 0], [], [], [], [], [3, 91, 92, 93, 94, 0, 0], [], [], [], [], [3, 96, 97, 98, 99, 0, 0], [], [], [], [], [3, 101, 102, 103, 104, 0, 0], [], [], [], [], [3, 106, 107, 108, 109, 0, 0], [], [], [], [], [3, 111, 112, 113, 114, 0, 0], [], [], [], [], [3, 116, 117, 118, 119, 0, 0], [], [], [], [], [3, 121, 122, 123, 124, 0, 0], [], [], [], [], [3, 126, 127, 128, 129, 0, 0], [], [], [], [], [131, 132, 43, 133], [], [], [], [135, 136, 137, 0, 0, 0, 0, 43, 138, 143], [], [], [], [139, 140, 141, 142], [], [], [], [], [], [145, 162, 179, 196], [147, 146, 152, 0], [], [3, 148, 149, 150, 151, 0, 0], [], [], [], [], [153, 154, 155, 0, 0, 0, 0, 147, 156, 161], [], [], [], [157, 158, 159, 160], [], [], [], [], [], [164, 163, 169, 0], [], [3, 165, 166, 167, 168, 0, 0], [], [], [], [], [170, 171, 172, 0, 0, 0, 0, 164, 173, 178], [], [], [], [174, 175, 176, 177], [], [], [], [], [], [181, 180, 186, 0], [], [3, 182, 183, 184, 185, 0, 0], [], [], [], [], [187, 188, 189, 0, 0, 0, 0, 181, 190, 195], [], [], [], [191, 192, 193, 194], [], [], [], [], [], [198, 197, 203, 0], [], [3, 199, 200, 201, 202, 0, 0], [], [], [], [], [204, 205, 206, 0, 0, 0, 0, 198, 207, 212], [], [], [], [208, 209, 210, 211], [], [], [], [], [], [214, 219, 224, 229, 234, 239, 244], [3, 215, 216, 217, 218, 0, 0], [], [], [], [], [3, 220, 221, 222, 223, 0, 0], [], [], [], [], [3, 225, 226, 227, 228, 0, 0], [], [], [], [], [3, 230, 231, 232, 233, 0, 0], [], [], [], [], [3, 235, 236, 237, 238, 0, 0], [], [], [], [], [3, 240, 241, 242, 243, 0, 0], [], [], [], [], [3, 245, 246, 247, 248, 0, 0], [], [], [], [], [0, 250, 0, 0, 251, 252, 253, 0, 0, 254, 255, 256, 257, 0, 258, 259, 260, 261, 0, 0, 262, 263, 264, 265, 0, 266, 267, 268, 0, 269, 0], [], [], [], [], [], [], [], [], [], [], [], [], [], [], [], [], [], [], [], [], []]
def fty (c j : Nat) : Nat := (ftab.getD c []).getD j 0
def nfd (c : Nat) : Nat := nfl.getD c 0
def sh (a : Nat) : Nat × Nat := shp.getD a (0, 0)
def rf (a j : Nat) : Nat := (rft.getD a []).getD j 0
/-- a cell is an object of class c -/
def ob (a c : Nat) : Prop := a < 270 ∧ sh a = (c, 0)
/-- a cell is an array of kind t and length n -/
def ar (a t n : Nat) : Prop := a < 270 ∧ sh a = (100 + t, n)
def tgt : List (List (Nat × Nat)) := [
  [(100, 1000), (100, 24), (999, 0)],
  [(4, 0), (100, 4), (6, 0), (999, 0)],
  [(104, 16), (999, 0), (999, 0)],
  [(100, 40), (100, 40), (100, 40), (100, 40), (999, 0), (999, 0), (999, 0)],
  [(7, 0), (100, 6), (100, 6), (100, 6), (100, 4), (999, 0), (999, 0)],
  [(102, 1000), (999, 0), (999, 0), (999, 0), (999, 0), (999, 0), (999, 0), (999, 0), (999, 0)],
  [(100, 6), (100, 6), (100, 6), (999, 0), (999, 0), (999, 0), (999, 0), (4, 0), (106, 4), (100, 4)],
  [(101, 5), (101, 4), (101, 6), (100, 5), (100, 5), (100, 4), (100, 6), (100, 6), (0, 0), (999, 0), (999, 0), (999, 0)],
  [(5, 0), (7, 0), (999, 0)],
  [(100, 4), (100, 6), (4, 0), (100, 4)],
  [(5, 0), (7, 0), (8, 0), (3, 0), (3, 0), (4, 0), (4, 0), (2, 0), (9, 0), (6, 0), (105, 4), (104, 7)],
  [(999, 0), (100, 1000), (999, 0), (999, 0), (100, 1002), (100, 1002), (101, 1002), (999, 0), (999, 0), (101, 23), (100, 80), (100, 2200), (100, 2200), (999, 0), (101, 15), (101, 15), (100, 15), (100, 15), (999, 0), (999, 0), (100, 330), (100, 4), (100, 1100), (100, 966), (999, 0), (103, 4), (100, 6), (100, 6), (999, 0), (100, 20), (999, 0)]]
def tg (c j : Nat) : Nat × Nat := (tgt.getD c []).getD j (999, 0)
theorem rf_all : ∀ a, a < 270 → (sh a).1 < 100 → ∀ j, j < nfd (sh a).1 → fty (sh a).1 j = 2 → rf a j < 270 ∧ sh (rf a j) = tg (sh a).1 j := by decide +kernel
theorem rf_ob {a c j c2 : Nat} (h : ob a c) (hc : c < 100) (hj : j < nfd c) (hf : fty c j = 2) (ht : tg c j = (c2, 0)) : ob (rf a j) c2 := by
  obtain ⟨h1, h2⟩ := h
  have := rf_all a h1 (by rw [h2]; exact hc) j (by rw [h2]; exact hj) (by rw [h2]; exact hf)
  rw [h2] at this
  exact ⟨this.1, this.2.trans ht⟩
theorem rf_ar {a c j t n : Nat} (h : ob a c) (hc : c < 100) (hj : j < nfd c) (hf : fty c j = 2) (ht : tg c j = (100 + t, n)) : ar (rf a j) t n := by
  obtain ⟨h1, h2⟩ := h
  have := rf_all a h1 (by rw [h2]; exact hc) j (by rw [h2]; exact hj) (by rw [h2]; exact hf)
  rw [h2] at this
  exact ⟨this.1, this.2.trans ht⟩
theorem rf_arr4 : ∀ a, a < 270 → (sh a).1 = 104 → ∀ j, j < (sh a).2 → rf a j < 270 ∧ sh (rf a j) = (4, 0) := by decide +kernel
theorem rf_arr5 : ∀ a, a < 270 → (sh a).1 = 105 → ∀ j, j < (sh a).2 → rf a j < 270 ∧ sh (rf a j) = (1, 0) := by decide +kernel
theorem rf_arr6 : ∀ a, a < 270 → (sh a).1 = 106 → ∀ j, j < (sh a).2 → rf a j < 270 ∧ sh (rf a j) = (100, 5) := by decide +kernel
theorem tX0_0 {a : Nat} (h : ob a 0) : ar (rf a 0) 0 1000 := rf_ar h (by decide) (by decide) (by decide) (by decide)
theorem tX0_1 {a : Nat} (h : ob a 0) : ar (rf a 1) 0 24 := rf_ar h (by decide) (by decide) (by decide) (by decide)
theorem tX1_0 {a : Nat} (h : ob a 1) : ob (rf a 0) 4 := rf_ob h (by decide) (by decide) (by decide) (by decide)
theorem tX1_1 {a : Nat} (h : ob a 1) : ar (rf a 1) 0 4 := rf_ar h (by decide) (by decide) (by decide) (by decide)
theorem tX1_2 {a : Nat} (h : ob a 1) : ob (rf a 2) 6 := rf_ob h (by decide) (by decide) (by decide) (by decide)
theorem tX2_0 {a : Nat} (h : ob a 2) : ar (rf a 0) 4 16 := rf_ar h (by decide) (by decide) (by decide) (by decide)
theorem tX3_0 {a : Nat} (h : ob a 3) : ar (rf a 0) 0 40 := rf_ar h (by decide) (by decide) (by decide) (by decide)
theorem tX3_1 {a : Nat} (h : ob a 3) : ar (rf a 1) 0 40 := rf_ar h (by decide) (by decide) (by decide) (by decide)
theorem tX3_2 {a : Nat} (h : ob a 3) : ar (rf a 2) 0 40 := rf_ar h (by decide) (by decide) (by decide) (by decide)
theorem tX3_3 {a : Nat} (h : ob a 3) : ar (rf a 3) 0 40 := rf_ar h (by decide) (by decide) (by decide) (by decide)
theorem tX4_0 {a : Nat} (h : ob a 4) : ob (rf a 0) 7 := rf_ob h (by decide) (by decide) (by decide) (by decide)
theorem tX4_1 {a : Nat} (h : ob a 4) : ar (rf a 1) 0 6 := rf_ar h (by decide) (by decide) (by decide) (by decide)
theorem tX4_2 {a : Nat} (h : ob a 4) : ar (rf a 2) 0 6 := rf_ar h (by decide) (by decide) (by decide) (by decide)
theorem tX4_3 {a : Nat} (h : ob a 4) : ar (rf a 3) 0 6 := rf_ar h (by decide) (by decide) (by decide) (by decide)
theorem tX4_4 {a : Nat} (h : ob a 4) : ar (rf a 4) 0 4 := rf_ar h (by decide) (by decide) (by decide) (by decide)
theorem tX5_0 {a : Nat} (h : ob a 5) : ar (rf a 0) 2 1000 := rf_ar h (by decide) (by decide) (by decide) (by decide)
theorem tX6_0 {a : Nat} (h : ob a 6) : ar (rf a 0) 0 6 := rf_ar h (by decide) (by decide) (by decide) (by decide)
theorem tX6_1 {a : Nat} (h : ob a 6) : ar (rf a 1) 0 6 := rf_ar h (by decide) (by decide) (by decide) (by decide)
theorem tX6_2 {a : Nat} (h : ob a 6) : ar (rf a 2) 0 6 := rf_ar h (by decide) (by decide) (by decide) (by decide)
theorem tX6_7 {a : Nat} (h : ob a 6) : ob (rf a 7) 4 := rf_ob h (by decide) (by decide) (by decide) (by decide)
theorem tX6_8 {a : Nat} (h : ob a 6) : ar (rf a 8) 6 4 := rf_ar h (by decide) (by decide) (by decide) (by decide)
theorem tX6_9 {a : Nat} (h : ob a 6) : ar (rf a 9) 0 4 := rf_ar h (by decide) (by decide) (by decide) (by decide)
theorem tX7_0 {a : Nat} (h : ob a 7) : ar (rf a 0) 1 5 := rf_ar h (by decide) (by decide) (by decide) (by decide)
theorem tX7_1 {a : Nat} (h : ob a 7) : ar (rf a 1) 1 4 := rf_ar h (by decide) (by decide) (by decide) (by decide)
theorem tX7_2 {a : Nat} (h : ob a 7) : ar (rf a 2) 1 6 := rf_ar h (by decide) (by decide) (by decide) (by decide)
theorem tX7_3 {a : Nat} (h : ob a 7) : ar (rf a 3) 0 5 := rf_ar h (by decide) (by decide) (by decide) (by decide)
theorem tX7_4 {a : Nat} (h : ob a 7) : ar (rf a 4) 0 5 := rf_ar h (by decide) (by decide) (by decide) (by decide)
theorem tX7_5 {a : Nat} (h : ob a 7) : ar (rf a 5) 0 4 := rf_ar h (by decide) (by decide) (by decide) (by decide)
theorem tX7_6 {a : Nat} (h : ob a 7) : ar (rf a 6) 0 6 := rf_ar h (by decide) (by decide) (by decide) (by decide)
theorem tX7_7 {a : Nat} (h : ob a 7) : ar (rf a 7) 0 6 := rf_ar h (by decide) (by decide) (by decide) (by decide)
theorem tX7_8 {a : Nat} (h : ob a 7) : ob (rf a 8) 0 := rf_ob h (by decide) (by decide) (by decide) (by decide)
theorem tX8_0 {a : Nat} (h : ob a 8) : ob (rf a 0) 5 := rf_ob h (by decide) (by decide) (by decide) (by decide)
theorem tX8_1 {a : Nat} (h : ob a 8) : ob (rf a 1) 7 := rf_ob h (by decide) (by decide) (by decide) (by decide)
theorem tX9_0 {a : Nat} (h : ob a 9) : ar (rf a 0) 0 4 := rf_ar h (by decide) (by decide) (by decide) (by decide)
theorem tX9_1 {a : Nat} (h : ob a 9) : ar (rf a 1) 0 6 := rf_ar h (by decide) (by decide) (by decide) (by decide)
theorem tX9_2 {a : Nat} (h : ob a 9) : ob (rf a 2) 4 := rf_ob h (by decide) (by decide) (by decide) (by decide)
theorem tX9_3 {a : Nat} (h : ob a 9) : ar (rf a 3) 0 4 := rf_ar h (by decide) (by decide) (by decide) (by decide)
theorem tX11_0 {a : Nat} (h : ob a 10) : ob (rf a 0) 5 := rf_ob h (by decide) (by decide) (by decide) (by decide)
theorem tX11_1 {a : Nat} (h : ob a 10) : ob (rf a 1) 7 := rf_ob h (by decide) (by decide) (by decide) (by decide)
theorem tX11_2 {a : Nat} (h : ob a 10) : ob (rf a 2) 8 := rf_ob h (by decide) (by decide) (by decide) (by decide)
theorem tX11_3 {a : Nat} (h : ob a 10) : ob (rf a 3) 3 := rf_ob h (by decide) (by decide) (by decide) (by decide)
theorem tX11_4 {a : Nat} (h : ob a 10) : ob (rf a 4) 3 := rf_ob h (by decide) (by decide) (by decide) (by decide)
theorem tX11_5 {a : Nat} (h : ob a 10) : ob (rf a 5) 4 := rf_ob h (by decide) (by decide) (by decide) (by decide)
theorem tX11_6 {a : Nat} (h : ob a 10) : ob (rf a 6) 4 := rf_ob h (by decide) (by decide) (by decide) (by decide)
theorem tX11_7 {a : Nat} (h : ob a 10) : ob (rf a 7) 2 := rf_ob h (by decide) (by decide) (by decide) (by decide)
theorem tX11_8 {a : Nat} (h : ob a 10) : ob (rf a 8) 9 := rf_ob h (by decide) (by decide) (by decide) (by decide)
theorem tX11_9 {a : Nat} (h : ob a 10) : ob (rf a 9) 6 := rf_ob h (by decide) (by decide) (by decide) (by decide)
theorem tX11_10 {a : Nat} (h : ob a 10) : ar (rf a 10) 5 4 := rf_ar h (by decide) (by decide) (by decide) (by decide)
theorem tX11_11 {a : Nat} (h : ob a 10) : ar (rf a 11) 4 7 := rf_ar h (by decide) (by decide) (by decide) (by decide)
theorem tX12_1 {a : Nat} (h : ob a 11) : ar (rf a 1) 0 1000 := rf_ar h (by decide) (by decide) (by decide) (by decide)
theorem tX12_4 {a : Nat} (h : ob a 11) : ar (rf a 4) 0 1002 := rf_ar h (by decide) (by decide) (by decide) (by decide)
theorem tX12_5 {a : Nat} (h : ob a 11) : ar (rf a 5) 0 1002 := rf_ar h (by decide) (by decide) (by decide) (by decide)
theorem tX12_6 {a : Nat} (h : ob a 11) : ar (rf a 6) 1 1002 := rf_ar h (by decide) (by decide) (by decide) (by decide)
theorem tX12_9 {a : Nat} (h : ob a 11) : ar (rf a 9) 1 23 := rf_ar h (by decide) (by decide) (by decide) (by decide)
theorem tX12_10 {a : Nat} (h : ob a 11) : ar (rf a 10) 0 80 := rf_ar h (by decide) (by decide) (by decide) (by decide)
theorem tX12_11 {a : Nat} (h : ob a 11) : ar (rf a 11) 0 2200 := rf_ar h (by decide) (by decide) (by decide) (by decide)
theorem tX12_12 {a : Nat} (h : ob a 11) : ar (rf a 12) 0 2200 := rf_ar h (by decide) (by decide) (by decide) (by decide)
theorem tX12_14 {a : Nat} (h : ob a 11) : ar (rf a 14) 1 15 := rf_ar h (by decide) (by decide) (by decide) (by decide)
theorem tX12_15 {a : Nat} (h : ob a 11) : ar (rf a 15) 1 15 := rf_ar h (by decide) (by decide) (by decide) (by decide)
theorem tX12_16 {a : Nat} (h : ob a 11) : ar (rf a 16) 0 15 := rf_ar h (by decide) (by decide) (by decide) (by decide)
theorem tX12_17 {a : Nat} (h : ob a 11) : ar (rf a 17) 0 15 := rf_ar h (by decide) (by decide) (by decide) (by decide)
theorem tX12_20 {a : Nat} (h : ob a 11) : ar (rf a 20) 0 330 := rf_ar h (by decide) (by decide) (by decide) (by decide)
theorem tX12_21 {a : Nat} (h : ob a 11) : ar (rf a 21) 0 4 := rf_ar h (by decide) (by decide) (by decide) (by decide)
theorem tX12_22 {a : Nat} (h : ob a 11) : ar (rf a 22) 0 1100 := rf_ar h (by decide) (by decide) (by decide) (by decide)
theorem tX12_23 {a : Nat} (h : ob a 11) : ar (rf a 23) 0 966 := rf_ar h (by decide) (by decide) (by decide) (by decide)
theorem tX12_25 {a : Nat} (h : ob a 11) : ar (rf a 25) 3 4 := rf_ar h (by decide) (by decide) (by decide) (by decide)
theorem tX12_26 {a : Nat} (h : ob a 11) : ar (rf a 26) 0 6 := rf_ar h (by decide) (by decide) (by decide) (by decide)
theorem tX12_27 {a : Nat} (h : ob a 11) : ar (rf a 27) 0 6 := rf_ar h (by decide) (by decide) (by decide) (by decide)
theorem tX12_29 {a : Nat} (h : ob a 11) : ar (rf a 29) 0 20 := rf_ar h (by decide) (by decide) (by decide) (by decide)
