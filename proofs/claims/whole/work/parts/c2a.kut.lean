/-! ===== what stands at the law's start ===== -/
theorem neq_of {args : Array Value} {s : State} {t u : Term} {a b : Nat} (ht : t.eval args s none [] s = some (.ref a)) (hu : u.eval args s none [] s = some (.ref b)) (h : a ≠ b) : (Cond.not (.eq t u)).before args s = true := by
  simp [Cond.before, Cond.holds, Cond.value, ht, hu, h]
def wsn : List (String × Nat) := [(eW, 116), (eW, 122), (eW, 125), (eW, 128), (eW, 131), (eW, 134), (eW, 137), (eW, 140), (eW, 143), (eW, 146), (eW, 149), (eW, 152), (eW, 155), (eW, 158), (eW, 161), (eW, 164), (eW, 167), (eW, 170), (eW, 173), (eW, 176), (eW, 181), (eW, 184), (eW, 187), ("LaundrySky$Tape", 61)]
def wtm (i : Nat) : Term := .string (wsn.getD i (eW, 0)).1 (wsn.getD i (eW, 0)).2
def wst1 (i : Nat) : Term := .static eW (wnm.getD i "") dW
def fG : List Cond := flatC (Jvm.Cond.and given_1 narrow_1)
theorem lit_i : ∀ i, i < 23 → ∀ j, j < 23 → i ≠ j → Int32.ofNat i ≠ Int32.ofNat j := by decide +kernel
theorem fg_ex : ∀ i, i < 23 → Cond.exactly (wst1 i) eW ∈ fG := by decide +kernel
theorem fg_or : ∀ i, i < 23 → Cond.eq (.field (wst1 i) "java/lang/Enum" "ordinal" "I") (.int (Int32.ofNat i)) ∈ fG := by decide +kernel
theorem fg_gr : ∀ i, i < 23 → Cond.eq (.field (wst1 i) eW "group" "I") (.int (wgr.getD i 0)) ∈ fG := by decide +kernel
theorem fg_va : ∀ i, i < 23 → Cond.eq (.field (wst1 i) eW "value" "I") (.int (wva.getD i 0)) ∈ fG := by decide +kernel
theorem fg_tx : ∀ i, i < 23 → Cond.eq (.field (wst1 i) eW "text" "Ljava/lang/String;") (wtm i) ∈ fG := by decide +kernel
theorem fg_sx : ∀ i, i < 24 → Cond.exactly (wtm i) "java/lang/String" ∈ fG := by decide +kernel
theorem fg_sc : ∀ i, i < 24 → Cond.eq (.field (wtm i) "java/lang/String" "coder" "B") (.int 0) ∈ fG := by decide +kernel
theorem fg_sa : ∀ i, i < 24 → Cond.arrayOf (.field (wtm i) "java/lang/String" "value" "[B") .byte ∈ fG := by decide +kernel
theorem fg_sl : ∀ i, i < 24 → Cond.eq (.length (.field (wtm i) "java/lang/String" "value" "[B")) (.int (Int32.ofNat (sln.getD i 0))) ∈ fG := by decide +kernel
theorem fg_se_0 : ∀ j, j < sln.getD 0 0 → Cond.eq (.elem (.field (wtm 0) "java/lang/String" "value" "[B") (.int (Int32.ofNat j))) (.int ((sby.getD 0 []).getD j 0)) ∈ fG := by decide +kernel
theorem fg_se_1 : ∀ j, j < sln.getD 1 0 → Cond.eq (.elem (.field (wtm 1) "java/lang/String" "value" "[B") (.int (Int32.ofNat j))) (.int ((sby.getD 1 []).getD j 0)) ∈ fG := by decide +kernel
theorem fg_se_2 : ∀ j, j < sln.getD 2 0 → Cond.eq (.elem (.field (wtm 2) "java/lang/String" "value" "[B") (.int (Int32.ofNat j))) (.int ((sby.getD 2 []).getD j 0)) ∈ fG := by decide +kernel
theorem fg_se_3 : ∀ j, j < sln.getD 3 0 → Cond.eq (.elem (.field (wtm 3) "java/lang/String" "value" "[B") (.int (Int32.ofNat j))) (.int ((sby.getD 3 []).getD j 0)) ∈ fG := by decide +kernel
theorem fg_se_4 : ∀ j, j < sln.getD 4 0 → Cond.eq (.elem (.field (wtm 4) "java/lang/String" "value" "[B") (.int (Int32.ofNat j))) (.int ((sby.getD 4 []).getD j 0)) ∈ fG := by decide +kernel
theorem fg_se_5 : ∀ j, j < sln.getD 5 0 → Cond.eq (.elem (.field (wtm 5) "java/lang/String" "value" "[B") (.int (Int32.ofNat j))) (.int ((sby.getD 5 []).getD j 0)) ∈ fG := by decide +kernel
theorem fg_se_6 : ∀ j, j < sln.getD 6 0 → Cond.eq (.elem (.field (wtm 6) "java/lang/String" "value" "[B") (.int (Int32.ofNat j))) (.int ((sby.getD 6 []).getD j 0)) ∈ fG := by decide +kernel
theorem fg_se_7 : ∀ j, j < sln.getD 7 0 → Cond.eq (.elem (.field (wtm 7) "java/lang/String" "value" "[B") (.int (Int32.ofNat j))) (.int ((sby.getD 7 []).getD j 0)) ∈ fG := by decide +kernel
theorem fg_se_8 : ∀ j, j < sln.getD 8 0 → Cond.eq (.elem (.field (wtm 8) "java/lang/String" "value" "[B") (.int (Int32.ofNat j))) (.int ((sby.getD 8 []).getD j 0)) ∈ fG := by decide +kernel
theorem fg_se_9 : ∀ j, j < sln.getD 9 0 → Cond.eq (.elem (.field (wtm 9) "java/lang/String" "value" "[B") (.int (Int32.ofNat j))) (.int ((sby.getD 9 []).getD j 0)) ∈ fG := by decide +kernel
theorem fg_se_10 : ∀ j, j < sln.getD 10 0 → Cond.eq (.elem (.field (wtm 10) "java/lang/String" "value" "[B") (.int (Int32.ofNat j))) (.int ((sby.getD 10 []).getD j 0)) ∈ fG := by decide +kernel
theorem fg_se_11 : ∀ j, j < sln.getD 11 0 → Cond.eq (.elem (.field (wtm 11) "java/lang/String" "value" "[B") (.int (Int32.ofNat j))) (.int ((sby.getD 11 []).getD j 0)) ∈ fG := by decide +kernel
theorem fg_se_12 : ∀ j, j < sln.getD 12 0 → Cond.eq (.elem (.field (wtm 12) "java/lang/String" "value" "[B") (.int (Int32.ofNat j))) (.int ((sby.getD 12 []).getD j 0)) ∈ fG := by decide +kernel
theorem fg_se_13 : ∀ j, j < sln.getD 13 0 → Cond.eq (.elem (.field (wtm 13) "java/lang/String" "value" "[B") (.int (Int32.ofNat j))) (.int ((sby.getD 13 []).getD j 0)) ∈ fG := by decide +kernel
theorem fg_se_14 : ∀ j, j < sln.getD 14 0 → Cond.eq (.elem (.field (wtm 14) "java/lang/String" "value" "[B") (.int (Int32.ofNat j))) (.int ((sby.getD 14 []).getD j 0)) ∈ fG := by decide +kernel
theorem fg_se_15 : ∀ j, j < sln.getD 15 0 → Cond.eq (.elem (.field (wtm 15) "java/lang/String" "value" "[B") (.int (Int32.ofNat j))) (.int ((sby.getD 15 []).getD j 0)) ∈ fG := by decide +kernel
theorem fg_se_16 : ∀ j, j < sln.getD 16 0 → Cond.eq (.elem (.field (wtm 16) "java/lang/String" "value" "[B") (.int (Int32.ofNat j))) (.int ((sby.getD 16 []).getD j 0)) ∈ fG := by decide +kernel
theorem fg_se_17 : ∀ j, j < sln.getD 17 0 → Cond.eq (.elem (.field (wtm 17) "java/lang/String" "value" "[B") (.int (Int32.ofNat j))) (.int ((sby.getD 17 []).getD j 0)) ∈ fG := by decide +kernel
theorem fg_se_18 : ∀ j, j < sln.getD 18 0 → Cond.eq (.elem (.field (wtm 18) "java/lang/String" "value" "[B") (.int (Int32.ofNat j))) (.int ((sby.getD 18 []).getD j 0)) ∈ fG := by decide +kernel
theorem fg_se_19 : ∀ j, j < sln.getD 19 0 → Cond.eq (.elem (.field (wtm 19) "java/lang/String" "value" "[B") (.int (Int32.ofNat j))) (.int ((sby.getD 19 []).getD j 0)) ∈ fG := by decide +kernel
theorem fg_se_20 : ∀ j, j < sln.getD 20 0 → Cond.eq (.elem (.field (wtm 20) "java/lang/String" "value" "[B") (.int (Int32.ofNat j))) (.int ((sby.getD 20 []).getD j 0)) ∈ fG := by decide +kernel
theorem fg_se_21 : ∀ j, j < sln.getD 21 0 → Cond.eq (.elem (.field (wtm 21) "java/lang/String" "value" "[B") (.int (Int32.ofNat j))) (.int ((sby.getD 21 []).getD j 0)) ∈ fG := by decide +kernel
theorem fg_se_22 : ∀ j, j < sln.getD 22 0 → Cond.eq (.elem (.field (wtm 22) "java/lang/String" "value" "[B") (.int (Int32.ofNat j))) (.int ((sby.getD 22 []).getD j 0)) ∈ fG := by decide +kernel
theorem fg_se_23 : ∀ j, j < sln.getD 23 0 → Cond.eq (.elem (.field (wtm 23) "java/lang/String" "value" "[B") (.int (Int32.ofNat j))) (.int ((sby.getD 23 []).getD j 0)) ∈ fG := by decide +kernel
theorem fg_se : ∀ i, i < 24 → ∀ j, j < sln.getD i 0 → Cond.eq (.elem (.field (wtm i) "java/lang/String" "value" "[B") (.int (Int32.ofNat j))) (.int ((sby.getD i []).getD j 0)) ∈ fG
  | 0, _ => fg_se_0
  | 1, _ => fg_se_1
  | 2, _ => fg_se_2
  | 3, _ => fg_se_3
  | 4, _ => fg_se_4
  | 5, _ => fg_se_5
  | 6, _ => fg_se_6
  | 7, _ => fg_se_7
  | 8, _ => fg_se_8
  | 9, _ => fg_se_9
  | 10, _ => fg_se_10
  | 11, _ => fg_se_11
  | 12, _ => fg_se_12
  | 13, _ => fg_se_13
  | 14, _ => fg_se_14
  | 15, _ => fg_se_15
  | 16, _ => fg_se_16
  | 17, _ => fg_se_17
  | 18, _ => fg_se_18
  | 19, _ => fg_se_19
  | 20, _ => fg_se_20
  | 21, _ => fg_se_21
  | 22, _ => fg_se_22
  | 23, _ => fg_se_23
  | n + 24, h => absurd h (by omega)
theorem fg_al : ∀ i, i < 23 → Cond.eq (.elem (.static eW "ALL" "[LLaundrySky$Word;") (.int (Int32.ofNat i))) (wst1 i) ∈ fG := by decide +kernel
theorem fg_ra : ∀ i, i < 4 → Cond.eq (.elem (.static "LaundrySky" "RANKS" "[I") (.int (Int32.ofNat i))) (.int (([2, 3, 0, 1] : List Int32).getD i 0)) ∈ fG := by decide +kernel
theorem wl_st : ∀ i, i < 23 → Cond.laysStatic eW (wnm.getD i "") dW ∈ lw_tbl := by decide +kernel
/-- no two of the texts are alike -/
theorem sb_ne : ∀ i, i < 24 → ∀ j, j < 24 → i ≠ j → Int32.ofNat (sln.getD i 0) ≠ Int32.ofNat (sln.getD j 0) ∨ ∃ k, k < sln.getD i 0 ∧ k < sln.getD j 0 ∧ (sby.getD i []).getD k 0 ≠ (sby.getD j []).getD k 0 := by decide +kernel
theorem nm_len : wnm.length = 23 := by decide
theorem tb_lg : ∀ w ∈ lg, w ∈ lw_tbl := fun w h => (List.mem_filter.mp h).1
