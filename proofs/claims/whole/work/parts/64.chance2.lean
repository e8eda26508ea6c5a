/-! ===== chance, the model's ===== -/
theorem fp_s {T : TW} {c o h s : Nat} {S : SK} : fpN T c o (h + 1) S s = (if s % 2 = 1 then o else 10 - o) * fpN T c o h (paS T S (decide (s % 2 = 1))) (s / 2) := rfl
theorem m_chance {A : AB} {σ : MM} (hV : VA A) (hA : MA A σ) (x y z : Int32) : wp (FX12_chance 249 x y z) σ (fun r τ => r = chR A x y z ∧ MA A τ ∧ ofM σ τ) := by
  have v6 := hV.1.1.2.2.1
  unfold FX12_chance
  refine mq_w hV hA (R := RtM) (fun σ hA => ?_) RtM_sc
  unfold chR
  have no : ¬ chB A x y z = true → wp (pu (-1 : Int32)) σ (fun r τ => r = (if chB A x y z = true then nI (wyN A.1 x.toNatClampNeg z.toNatClampNeg y.toNatClampNeg A.2.1.1 * 10 ^ (6 - y.toNatClampNeg)) else -1) ∧ eqr RtM σ τ) := by
    intro q
    rw [if_neg q]
    exact wp_pu ⟨rfl, eqr_rf⟩
  refine wp_eq (m_isCloth hA.1.1 x) ?_
  by_cases q1 : inN x (A.1.1 2) = true
  · rw [if_neg (bt q1)]
    obtain ⟨c, hc, rfl⟩ := inN_ex (by omega) q1
    have eh : FX12_doesHang 249 (0 : Int32) (nI c) σ = some (decide (¬ A.2.1.1 1 c = -1), σ) := ms_doesHang (b := 0) hV.1 okB0 hA.2.1.1 hV.2.1.1 hc
    refine wp_eq eh ?_
    by_cases q : A.2.1.1 1 c = -1
    · rw [if_pos (by simp [q, b2i])]
      exact no (fun h => by have := (ch_b h).1; rw [ha_n v6 hc] at this; simp [q] at this)
    · rw [if_neg (by simp [q, b2i])]
      refine wp_eq (ms_within y 1 6 σ) ?_
      by_cases w1 : (decide (¬ y < 1) && decide (¬ 6 < y)) = true
      · rw [if_neg (bt w1)]
        refine wp_eq (ms_within z 0 10 σ) ?_
        by_cases w2 : (decide (¬ z < 0) && decide (¬ 10 < z)) = true
        · rw [if_neg (bt w2)]
          have hb : chB A (nI c) y z = true := by
            unfold chB
            rw [ha_n v6 hc, w1, w2]
            simp [q]
          rw [if_pos hb]
          obtain ⟨n, hn1, hn6, rfl⟩ := w16 w1
          obtain ⟨o, ho, rfl⟩ := wi_ex (n := 10) rfl w2
          rw [cl_n (by omega), cl_n (by omega), cl_n (by omega), shl6 n (by omega)]
          have hp6 : 2 ^ n ≤ 2 ^ 6 := Nat.pow_le_pow_right (by decide) hn6
          have e64 : (2 : Nat) ^ 6 = 64 := by decide
          refine ws_it (fun m s τ => s = (lN (10 ^ m), nI m) ∧ τ = σ) n (by omega) ⟨rfl, rfl⟩ ?_
          rintro m s τ hm ⟨rfl, rfl⟩
          by_cases hmn : m < n
          · rw [if_neg (nle_n hmn (by omega)), lt_eq, lt_eq]
            refine wp_pu (Or.inl ⟨_, rfl, hmn, ?_, rfl⟩)
            rw [nI_1, show (10 : Int64) = lN 10 from rfl, lN_mul, Nat.pow_succ]
          have hme : m = n := by omega
          rw [if_pos (nI_le (by omega) (by omega))]
          refine wp_pu (Or.inr ⟨_, rfl, ?_⟩)
          rw [hme]
          refine ws_it (fun s t υ => t = (lN (smN (fpN A.1 c o n A.2.1.1) s), nI s) ∧ eqr RtM τ υ) (2 ^ n) (by omega) ⟨rfl, eqr_rf⟩ ?_
          rintro s t υ hs ⟨rfl, hq⟩
          by_cases hsn : s < 2 ^ n
          · rw [if_neg (nle_n hsn (by omega))]
            refine wp_bd (mt_tries v6 hq hA.2.1.1) ?_
            intro _ τ1 h1
            refine ws_it (fun k t ω => ∃ (P : Nat) (S : SK), t = (lN P, nI k) ∧ VSk A.1 S ∧ TrM A.1 τ S ω ∧ P * fpN A.1 c o (n - k) S (s / 2 ^ k) = fpN A.1 c o n A.2.1.1 s) n (by omega) ⟨1, A.2.1.1, rfl, hV.2.1.1, h1, by rw [Nat.pow_zero, Nat.div_one, Nat.one_mul, Nat.sub_zero]⟩ ?_
            rintro k t ω hk ⟨P, S, rfl, hvS, hT1, hP⟩
            by_cases hkn : k < n
            · rw [if_neg (nle_n hkn (by omega))]
              have eb : (nI s >>> (nI k &&& 31)) &&& 1 = nI ((s / 2 ^ k) % 2) := bit6 s (by omega) k (by omega)
              rw [show n - k = (n - (k + 1)) + 1 by omega, fp_s] at hP
              have ed : s / 2 ^ k / 2 = s / 2 ^ (k + 1) := by rw [Nat.div_div_eq_div_mul, Nat.pow_succ]
              rw [ed] at hP
              generalize hr : (s / 2 ^ k) % 2 = r at eb hP
              have hr2 : r = 0 ∨ r = 1 := by omega
              refine wp_eq (x := b2i (decide (r = 1))) (τ := ω) ?_ ?_
              · show (if (nI s >>> (nI k &&& 31)) &&& 1 = 1 then pu 1 else pu 0 : PP Int32) ω = _
                rw [eb]
                rcases hr2 with rfl | rfl <;> rfl
              refine wp_eq (x := lN (if r = 1 then o else 10 - o)) (τ := ω) ?_ ?_
              · rw [show (10 : Int32) - nI o = nI (10 - o) from pk_sub (a := 10) ho, nI_l (by omega), nI_l (by omega)]
                rcases hr2 with rfl | rfl <;> rfl
              rw [lt_eq]
              refine wp_bd (mt_pass hV.1 hA.1 hvS hT1 (decide (r = 1))) ?_
              rintro r2 ω2 ⟨-, h2⟩
              rw [lt_eq]
              refine wp_pu (Or.inl ⟨_, rfl, hkn, P * (if r = 1 then o else 10 - o), paS A.1 S (decide (r = 1)), ?_, VSk_pa hvS, h2, ?_⟩)
              · rw [nI_1, lN_mul]
              · rw [← hP, Nat.mul_assoc]
            · have hke : k = n := by omega
              rw [if_pos (nI_le (by omega) (by omega))]
              refine wp_pu (Or.inr ⟨_, rfl, ?_⟩)
              have ew : FX12_isWet 249 (882 : Int32) (nI c) ω = some (decide (¬ S 0 c ≤ 0), ω) := ms_isWet (b := 882) hV.1 okBt hT1.1 hc
              refine wp_eq ew ?_
              rw [hke, Nat.sub_self] at hP
              have hP' : P * (if S 0 c ≤ 0 then 1 else 0) = fpN A.1 c o n A.2.1.1 s := hP
              refine wp_eq (x := lN (fpN A.1 c o n A.2.1.1 s)) (τ := ω) ?_ ?_
              · rw [← hP']
                by_cases z : S 0 c ≤ 0
                · rw [if_pos (by simp [z, b2i]), if_pos z, Nat.mul_one]; rfl
                · rw [if_neg (by simp [z, b2i]), if_neg z, Nat.mul_zero]; rfl
              rw [lt_eq, lt_eq]
              refine wp_pu (Or.inl ⟨_, rfl, hsn, ?_, hT1.2⟩)
              rw [lN_add, nI_1]
              rfl
          · have hse : s = 2 ^ n := by omega
            rw [if_pos (nI_le (by omega) (by omega))]
            refine wp_pu (Or.inr ⟨_, rfl, ?_⟩)
            have hw := wy_le (T := A.1) (c := c) ho n A.2.1.1
            have ht : 10 ^ n ≤ 10 ^ 6 := Nat.pow_le_pow_right (by decide) hn6
            have e10 : (10 : Nat) ^ 6 = 1000000 := by decide
            have hpos : 0 < 10 ^ n := Nat.pow_pos (by decide)
            have n0 : ¬ lN (10 ^ n) = 0 := fun e => by
              have := (lN_eq (a := 10 ^ n) (b := 0) (by omega) (by decide)).mp e
              omega
            refine wp_eq (show gd (¬ lN (10 ^ n) = 0) υ = some ((), υ) by unfold gd; rw [if_pos n0]) (wp_pu ⟨?_, hq⟩)
            rw [hse, sm_wy, show (1000000 : Int64) = lN 1000000 from rfl, lN_mul, pk_lDiv (by omega) hpos (by omega), lN_i]
            congr 1
            have e1 : (10 : Nat) ^ (6 - n) * 10 ^ n = 1000000 := by rw [← Nat.pow_add, show 6 - n + n = 6 by omega]
            rw [← e1, ← Nat.mul_assoc, Nat.mul_div_cancel _ hpos]
        · rw [if_pos (bf w2)]
          exact no (fun h => w2 (ch_b h).2.2)
      · rw [if_pos (bf w1)]
        exact no (fun h => w1 (ch_b h).2.1)
  · rw [if_pos (bf q1)]
    refine no (fun h => q1 ?_)
    have := (ch_b h).1
    unfold haS at this
    rw [Bool.and_eq_true] at this
    exact this.1
theorem ok_25 {σ : MM} (h : Inv σ) (q : Nat → Int32) : okC (fun chk => TL_25 chk q) σ := by
  obtain ⟨A, hV, hC, hM⟩ := h
  exact okC_of (eq := fun x y => x = y) rfl hV hV hM (cq_w hC (c_chance hV hC (q 1) (q 2) (q 3)) (fun b j z => by unfold scC; omega)) (fun τ hM => m_chance hV hM (q 1) (q 2) (q 3))
