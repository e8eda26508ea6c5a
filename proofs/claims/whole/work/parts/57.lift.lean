/-! ===== lift ===== -/
theorem or6 : ∀ k, k < 6 → ∀ H, H < 64 → H < 2 ^ k → nI H ||| ((1 : Int32) <<< (nI k &&& 31)) = nI (H + 2 ^ k) := by decide +kernel
theorem bt_nat (p : Nat → Bool) : ∀ n, n ≤ 6 → ∃ H, H < 2 ^ n ∧ btF p n = nI H
  | 0, _ => ⟨0, by decide, rfl⟩
  | n + 1, h => by
    obtain ⟨H, h1, h2⟩ := bt_nat p n (by omega)
    have hp : 2 ^ n ≤ 2 ^ 5 := Nat.pow_le_pow_right (by decide) (by omega)
    have e2 : (2 : Nat) ^ 5 = 32 := by decide
    have e : (2 : Nat) ^ (n + 1) = 2 ^ n + 2 ^ n := by rw [Nat.pow_succ]; omega
    show ∃ H, H < 2 ^ (n + 1) ∧ btF p n ||| (if p n = true then _ else 0) = nI H
    rw [h2]
    by_cases q : p n = true
    · rw [if_pos q, or6 n (by omega) H (by omega) h1]
      exact ⟨H + 2 ^ n, by omega, rfl⟩
    · rw [if_neg q]
      exact ⟨H, by omega, by simp⟩
theorem sub6 : ∀ H, H < 64 → ∀ s, s < 64 → H < s → ¬ (nI s &&& (nI H ^^^ (-1 : Int32))) = 0 := by decide +kernel
theorem shl6 : ∀ n, n < 7 → (1 : Int32) <<< (nI n &&& 31) = nI (2 ^ n) := by decide +kernel
def bsum (x : Int32) : Nat → Int32
  | 0 => 0
  | k + 1 => bsum x k + ((x >>> (nI k &&& 31)) &&& 1)
theorem bs6 : ∀ s, s < 64 → bsum (nI s) 30 = bcI (nI s) := by decide +kernel
theorem bc7 : ∀ s, s < 64 → bcI (nI s) < 7 := by decide +kernel
theorem m_bits {s : Nat} (hs : s < 64) (σ : MM) : FX12_bits (nI s) σ = some (bcI (nI s), σ) := by
  rw [← bs6 s hs]
  unfold FX12_bits
  refine (bd_it (fun k => (bsum (nI s) k, nI k)) 30 rfl ?_ ?_ (by decide)).trans rfl
  · intro k hk
    have e2 : ¬ (30 : Int32) ≤ nI k := nle_n hk (by decide)
    simp [e2, bsum, lt, pu, nI_1]
  · rw [if_pos (show (30 : Int32) ≤ nI 30 by decide)]
    rfl
theorem bit01 (x : Int32) : x &&& 1 = 0 ∨ x &&& 1 = 1 := by
  obtain ⟨j, hj, e⟩ := pk_andE x (m := 1) 1 rfl
  rcases (show j = 0 ∨ j = 1 by omega) with rfl | rfl
  · exact Or.inl e
  · exact Or.inr e
/-- the cloths of a set taken down, those below m -/
def dnA (S : SK) (s : Int32) (m : Nat) : SK := fun r c => if c < m ∧ (s >>> (nI c &&& 31)) &&& 1 = 1 then (if r = 1 then -1 else if r = 2 then 0 else S r c) else S r c
theorem dnA_0 {S : SK} {s : Int32} : dnA S s 0 = S := by funext r c; simp [dnA]
theorem dnA_s {S : SK} {s : Int32} {m : Nat} : dnA S s (m + 1) = if (s >>> (nI m &&& 31)) &&& 1 = 1 then dnS (dnA S s m) m else dnA S s m := by
  funext r c
  by_cases q : (s >>> (nI m &&& 31)) &&& 1 = 1
  · rw [if_pos q]
    unfold dnS puS
    by_cases z : c = m
    · subst z
      by_cases r1 : r = 1
      · simp [dnA, up2, q, r1]
      · by_cases r2 : r = 2
        · simp [dnA, up2, q, r2]
        · simp [dnA, up2, r1, r2]
    · have e : (c < m + 1) = (c < m) := propext ⟨fun h => by omega, fun h => by omega⟩
      simp [dnA, up2, z, e]
  · rw [if_neg q]
    by_cases z : c = m
    · subst z
      simp [dnA, q]
    · have e : (c < m + 1) = (c < m) := propext ⟨fun h => by omega, fun h => by omega⟩
      simp [dnA, e]
theorem VSk_dA {T : TW} {S : SK} {s : Int32} (hv : VSk T S) : ∀ m, VSk T (dnA S s m)
  | 0 => by rw [dnA_0]; exact hv
  | m + 1 => by
    rw [dnA_s]
    by_cases q : (s >>> (nI m &&& 31)) &&& 1 = 1
    · rw [if_pos q]; exact VSk_dn (VSk_dA hv m)
    · rw [if_neg q]; exact VSk_dA hv m
theorem we_dA {T : TW} {S : SK} {s : Int32} {p : Nat} (h6 : T.1 2 ≤ 6) : weS T (dnA S s (T.1 2)) p = (wxS T S p s).1 := by
  unfold weS wxS
  rw [wst_cong (g := cnS T S p s) (fun j _ => ?_) (Nat.le_refl 4)]
  unfold cnS
  refine hmF_cong (fun k hk => ?_)
  unfold kdc wtw
  rw [zshr k (by omega)]
  have e0 : dnA S s (T.1 2) 0 k = S 0 k := by simp [dnA]
  have e1 : dnA S s (T.1 2) 1 k = if (s >>> (nI k &&& 31)) &&& 1 = 1 then -1 else S 1 k := by simp [dnA, hk]
  rw [e0, e1]
  rcases bit01 (s >>> (nI k &&& 31)) with q | q
  · simp [q]
  · simp [q, abv]
def liC (T : TW) (S : SK) (p : Nat) (w : Int32) (s : Nat) (b : Int32) : Bool := decide ((nI s &&& (hgS T S ^^^ (-1 : Int32))) = 0) && ((decide (b < 0) || decide (bcI (nI s) < bcI b)) && decide ((wxS T S p (nI s)).1 = w))
def liF (T : TW) (S : SK) (p : Nat) (w : Int32) : Nat → Int32
  | 0 => -1
  | s + 1 => if liC T S p w s (liF T S p w s) = true then nI s else liF T S p w s
theorem li_ex {T : TW} {S : SK} {p : Nat} {w : Int32} : ∀ s, s ≤ 64 → liF T S p w s = -1 ∨ ∃ j, j < 64 ∧ liF T S p w s = nI j
  | 0, _ => Or.inl rfl
  | s + 1, h => by
    show (if _ then nI s else liF T S p w s) = -1 ∨ _
    by_cases q : liC T S p w s (liF T S p w s) = true
    · exact Or.inr ⟨s, by omega, by show (if _ then _ else _) = _; rw [if_pos q]⟩
    · have : liF T S p w (s + 1) = liF T S p w s := by show (if _ then _ else _) = _; rw [if_neg q]
      rw [this, if_neg q]
      exact li_ex s (by omega)
theorem li_st {T : TW} {S : SK} {p : Nat} {w : Int32} {n : Nat} : ∀ m, n ≤ m → (∀ s, n ≤ s → s < m → ¬ (nI s &&& (hgS T S ^^^ (-1 : Int32))) = 0) → liF T S p w m = liF T S p w n
  | 0, h, _ => by
    have : n = 0 := by omega
    rw [this]
  | m + 1, h, hs => by
    by_cases q : n = m + 1
    · rw [q]
    · show (if liC T S p w m (liF T S p w m) = true then nI m else liF T S p w m) = _
      rw [if_neg (by unfold liC; rw [decide_eq_false (hs m (by omega) (by omega)), Bool.false_and]; decide)]
      exact li_st m (by omega) (fun s h1 h2 => hs s h1 (by omega))
def liR (A : AB) (x y : Int32) : Int32 := if (inN x (A.1.1 1) && iwe y) = true then liF A.1 A.2.1.1 x.toNatClampNeg y (2 ^ A.1.1 2) else -1
theorem fw_lt {b : Int32} {s : Nat} (hs : s < 64) (hb : b = -1 ∨ ∃ j, j < 64 ∧ b = nI j) : decide (¬ (if b = -1 then (7 : Int32) else bcI b) ≤ bcI (nI s)) = (decide (b < 0) || decide (bcI (nI s) < bcI b)) := by
  rcases hb with rfl | ⟨j, hj, rfl⟩
  · rw [if_pos rfl]
    have := bc7 s hs
    simp [Int32.not_le, this]
  · have n0 : ¬ nI j < 0 := nI_pos (by omega)
    have n1 : ¬ nI j = -1 := fun e => n0 (by rw [e]; decide)
    rw [if_neg n1]
    simp [n0, Int32.not_le]
theorem c_lift {A : AB} {σ : MM} (hV : VA A) (hA : CA A σ) (x y : Int32) : wp (FX11_lift 0 x y) σ (fun r τ => r = liR A x y ∧ eqr RtC σ τ) := by
  have v4 := hV.1.1.2.1
  have v6 := hV.1.1.2.2.1
  unfold FX11_lift liR
  rw [r0_1, r0_5]
  refine wp_eq (c_hasPlace hA.1.1 x) ?_
  by_cases q : inN x (A.1.1 1) = true
  · rw [if_neg (bt q)]
    refine wp_eq (c_isWeather y σ) ?_
    by_cases q2 : iwe y = true
    · rw [if_neg (bt q2), if_pos (by rw [q, q2]; rfl)]
      obtain ⟨p, hp, rfl⟩ := inN_ex (by omega) q
      rw [cl_n (by omega)]
      refine wp_eq (ks_hanging hA.1 o38 hA.2.1.1) ?_
      obtain ⟨H, hH, eH⟩ := bt_nat (fun k => decide (¬ A.2.1.1 1 k = -1)) (A.1.1 2) v6
      have eH' : hgS A.1 A.2.1.1 = nI H := eH
      have hp6 : 2 ^ A.1.1 2 ≤ 2 ^ 6 := Nat.pow_le_pow_right (by decide) v6
      have e64 : (2 : Nat) ^ 6 = 64 := by decide
      have hend : liF A.1 A.2.1.1 p y (2 ^ A.1.1 2) = liF A.1 A.2.1.1 p y (H + 1) := li_st _ (by omega) (fun s h1 h2 => by rw [eH']; exact sub6 H (by omega) s (by omega) (by omega))
      rw [hend]
      refine ws_it (fun s t υ => t = (liF A.1 A.2.1.1 p y s, (if liF A.1 A.2.1.1 p y s = -1 then (7 : Int32) else bcI (liF A.1 A.2.1.1 p y s)), nI s) ∧ eqr RtC σ υ) (H + 1) (by omega) ⟨rfl, eqr_rf⟩ ?_
      rintro s t υ hs ⟨rfl, hq⟩
      by_cases hsn : s < H + 1
      · rw [eH', if_neg (show ¬ nI H < nI s from fun z => by have := (nI_ltI (by omega) (by omega)).mp z; omega)]
        refine wp_eq (bc_ev _ υ) ?_
        have hx := li_ex (T := A.1) (S := A.2.1.1) (p := p) (w := y) s (by omega)
        have hfw := fw_lt (s := s) (by omega) hx
        have es : liF A.1 A.2.1.1 p y (s + 1) = if liC A.1 A.2.1.1 p y s (liF A.1 A.2.1.1 p y s) = true then nI s else liF A.1 A.2.1.1 p y s := rfl
        have ec : liC A.1 A.2.1.1 p y s (liF A.1 A.2.1.1 p y s) = (decide ((nI s &&& (nI H ^^^ (-1 : Int32))) = 0) && (decide (¬ (if liF A.1 A.2.1.1 p y s = -1 then (7 : Int32) else bcI (liF A.1 A.2.1.1 p y s)) ≤ bcI (nI s)) && decide ((wxS A.1 A.2.1.1 p (nI s)).1 = y))) := by
          rw [hfw, ← eH']; rfl
        have ns1 : ¬ nI s = -1 := fun e => absurd (show nI s < 0 by rw [e]; decide) (nI_pos (by omega))
        have keep : ∀ ω : MM, eqr RtC σ ω → liC A.1 A.2.1.1 p y s (liF A.1 A.2.1.1 p y s) = false → wp (bd (pu (liF A.1 A.2.1.1 p y s, (if liF A.1 A.2.1.1 p y s = -1 then (7 : Int32) else bcI (liF A.1 A.2.1.1 p y s)))) (fun (v7 : Int32 × Int32) => lt (nI s + (1 : Int32)) (fun y8 => pu (Sum.inl (v7.1, v7.2, y8)))) : PP ((Int32 × Int32 × Int32) ⊕ Int32)) ω (fun r υ => (∃ a', r = .inl a' ∧ s < H + 1 ∧ (a' = (liF A.1 A.2.1.1 p y (s + 1), (if liF A.1 A.2.1.1 p y (s + 1) = -1 then (7 : Int32) else bcI (liF A.1 A.2.1.1 p y (s + 1))), nI (s + 1)) ∧ eqr RtC σ υ)) ∨ (∃ b, r = .inr b ∧ wp (pu b) υ (fun r τ => r = liF A.1 A.2.1.1 p y (H + 1) ∧ eqr RtC σ τ))) := by
          intro ω hω hc
          refine wp_eq (show pu _ ω = some (_, ω) from rfl) ?_
          rw [lt_eq]
          have e9 : liF A.1 A.2.1.1 p y (s + 1) = liF A.1 A.2.1.1 p y s := by
            rw [es, if_neg (show ¬ liC A.1 A.2.1.1 p y s (liF A.1 A.2.1.1 p y s) = true by rw [hc]; decide)]
          exact wp_pu (Or.inl ⟨_, rfl, hsn, by rw [e9, nI_1], hω⟩)
        by_cases z1 : (nI s &&& (nI H ^^^ (-1 : Int32))) = 0
        · rw [if_pos z1]
          by_cases z2 : (if liF A.1 A.2.1.1 p y s = -1 then (7 : Int32) else bcI (liF A.1 A.2.1.1 p y s)) ≤ bcI (nI s)
          · rw [if_pos z2]
            exact keep υ hq (by rw [ec]; simp [z2])
          · rw [if_neg z2]
            obtain ⟨υ1, e1, q1, -⟩ := ks_weather hV.1 (tc_T hq hA.1) o38 (tc_S hq hA.2.1.1) hp (nI s)
            have hq1 : eqr RtC σ υ1 := eqr_tr hq (eqr_mono q1 (fun b j z => by unfold RtC; omega))
            refine bd_asw (wp_eq e1 ?_)
            by_cases z3 : (wxS A.1 A.2.1.1 p (nI s)).1 = y
            · rw [if_pos z3]
              refine wp_eq (show pu _ υ1 = some (_, υ1) from rfl) ?_
              rw [lt_eq]
              refine wp_pu (Or.inl ⟨_, rfl, hsn, ?_, hq1⟩)
              have : liF A.1 A.2.1.1 p y (s + 1) = nI s := by rw [es, if_pos (by rw [ec, decide_eq_true z1]; simp [z2, z3])]
              rw [this, if_neg ns1, nI_1]
            · rw [if_neg z3]
              exact keep υ1 hq1 (by rw [ec]; simp [z3])
        · rw [if_neg z1]
          exact keep υ hq (by rw [ec, decide_eq_false z1, Bool.false_and])
      · have : s = H + 1 := by omega
        rw [eH', if_pos (nIlt (by omega) (by omega))]
        exact wp_pu (Or.inr ⟨_, rfl, wp_pu ⟨by rw [this], hq⟩⟩)
    · rw [if_pos (bf q2), if_neg (by simp [q2])]
      exact wp_pu ⟨rfl, eqr_rf⟩
  · rw [if_pos (bf q), if_neg (by simp [q])]
    exact wp_pu ⟨rfl, eqr_rf⟩
theorem m_lift {A : AB} {σ : MM} (hV : VA A) (hA : MA A σ) (x y : Int32) : wp (FX12_lift 249 x y) σ (fun r τ => r = liR A x y ∧ MA A τ ∧ ofM σ τ) := by
  have v4 := hV.1.1.2.1
  have v6 := hV.1.1.2.2.1
  unfold FX12_lift
  refine mq_w hV hA (R := RtM) (fun σ hA => ?_) RtM_sc
  unfold liR
  refine wp_eq (m_isPlace hA.1.1 x) ?_
  by_cases q : inN x (A.1.1 1) = true
  · rw [if_neg (bt q)]
    refine wp_eq (m_isWeather y σ) ?_
    by_cases q2 : iwe y = true
    · rw [if_neg (bt q2), if_pos (by rw [q, q2]; rfl)]
      obtain ⟨p, hp, rfl⟩ := inN_ex (by omega) q
      rw [cl_n (by omega)]
      have hp6 : 2 ^ A.1.1 2 ≤ 2 ^ 6 := Nat.pow_le_pow_right (by decide) v6
      have e64 : (2 : Nat) ^ 6 = 64 := by decide
      refine ws_it (fun s t υ => t = (liF A.1 A.2.1.1 p y s, nI s) ∧ eqr RtM σ υ) (2 ^ A.1.1 2) (by omega) ⟨rfl, eqr_rf⟩ ?_
      rintro s t υ hs ⟨rfl, hq⟩
      refine wp_eq (ms_cloths (tm_T hq hA.1)) ?_
      rw [shl6 _ (by omega)]
      by_cases hsn : s < 2 ^ A.1.1 2
      · rw [if_neg (nle_n hsn (by omega))]
        have eh : FX12_hanging 249 (0 : Int32) υ = some (hgS A.1 A.2.1.1, υ) := ms_hanging (b := 0) hV.1 (tm_T hq hA.1) okB0 (tm_S v6 hq hA.2.1.1) hV.2.1.1
        refine wp_eq eh ?_
        have hx := li_ex (T := A.1) (S := A.2.1.1) (p := p) (w := y) s (by omega)
        have es : liF A.1 A.2.1.1 p y (s + 1) = if liC A.1 A.2.1.1 p y s (liF A.1 A.2.1.1 p y s) = true then nI s else liF A.1 A.2.1.1 p y s := rfl
        have ec : liC A.1 A.2.1.1 p y s (liF A.1 A.2.1.1 p y s) = (decide ((nI s &&& (hgS A.1 A.2.1.1 ^^^ (-1 : Int32))) = 0) && ((decide (liF A.1 A.2.1.1 p y s < 0) || decide (bcI (nI s) < bcI (liF A.1 A.2.1.1 p y s))) && decide ((wxS A.1 A.2.1.1 p (nI s)).1 = y))) := rfl
        refine wp_bd (Q := fun r ω => r = liF A.1 A.2.1.1 p y (s + 1) ∧ eqr RtM σ ω) ?_ ?_
        · by_cases z1 : (nI s &&& (hgS A.1 A.2.1.1 ^^^ (-1 : Int32))) = 0
          · rw [if_pos z1, jn_eq]
            have go : (decide (liF A.1 A.2.1.1 p y s < 0) || decide (bcI (nI s) < bcI (liF A.1 A.2.1.1 p y s))) = true → wp (bd (FX12_triesNow 249) (fun (_ : Unit) => bd (it (fun (s11 : Int32) => (bd (FX12_cloths 249) (fun x12 => if x12 ≤ s11 then pu (Sum.inr ()) else bd (if ((nI s >>> (s11 &&& 31)) &&& (1 : Int32)) = (1 : Int32) then bd (FX12_comesDown 249 (882 : Int32) s11) (fun (_ : Unit) => pu ()) else pu () : PP (Unit)) (fun (v14 : Unit) => lt (s11 + (1 : Int32)) (fun y15 => pu (Sum.inl y15)))) : PP ((Int32) ⊕ (Unit)))) FU (0 : Int32)) (fun (v16 : Unit) => bd (FX12_weatherOf 249 (882 : Int32) (nI p)) (fun x17 => bd (if x17 = y then pu (nI s) else pu (liF A.1 A.2.1.1 p y s) : PP (Int32)) (fun (v18 : Int32) => pu v18))))) υ (fun r ω => r = liF A.1 A.2.1.1 p y (s + 1) ∧ eqr RtM σ ω) := by
              intro hb
              refine wp_bd (mt_tries v6 hq hA.2.1.1) ?_
              intro _ τ1 h1
              refine ws_it (fun m t υ => t = nI m ∧ TrM A.1 σ (dnA A.2.1.1 (nI s) m) υ) (A.1.1 2) (by omega) ⟨rfl, by rw [dnA_0]; exact h1⟩ ?_
              rintro m t ω hm ⟨rfl, h2⟩
              refine wp_eq (ms_cloths (tm_T h2.2 hA.1)) ?_
              by_cases hmn : m < A.1.1 2
              · rw [if_neg (nle_n hmn (by omega))]
                refine wp_bd (Q := fun _ ω => TrM A.1 σ (dnA A.2.1.1 (nI s) (m + 1)) ω) ?_ ?_
                · rw [dnA_s]
                  by_cases z : (nI s >>> (nI m &&& 31)) &&& 1 = 1
                  · rw [if_pos z, if_pos z]
                    obtain ⟨τ2, e2, g1, g2⟩ := ms_comesDown (b := 882) v6 okBt h2.1 hmn
                    exact wp_eq e2 (wp_pu ⟨g1, eqr_tr h2.2 (eqr_mono g2 (fun b j z => by unfold RtM; omega))⟩)
                  · rw [if_neg z, if_neg z]
                    exact wp_pu h2
                · intro _ ω2 h3
                  rw [lt_eq]
                  exact wp_pu (Or.inl ⟨_, rfl, hmn, nI_1 m, h3⟩)
              · have : m = A.1.1 2 := by omega
                subst this
                rw [if_pos (le_nn (by omega))]
                refine wp_pu (Or.inr ⟨_, rfl, ?_⟩)
                have ew := mt_weather hV.1 hA.1 (VSk_dA hV.2.1.1 _) h2 hp
                rw [we_dA v6] at ew
                refine wp_eq ew ?_
                by_cases z3 : (wxS A.1 A.2.1.1 p (nI s)).1 = y
                · rw [if_pos z3]
                  exact wp_eq (show pu _ ω = some (_, ω) from rfl) (wp_pu ⟨by rw [es, if_pos (by rw [ec, hb, decide_eq_true z1]; simp [z3])], h2.2⟩)
                · rw [if_neg z3]
                  exact wp_eq (show pu _ ω = some (_, ω) from rfl) (wp_pu ⟨by rw [es, if_neg (by rw [ec]; simp [z3])], h2.2⟩)
            rcases hx with hx | ⟨j, hj, hx⟩
            · rw [if_pos (show liF A.1 A.2.1.1 p y s < 0 by rw [hx]; decide)]
              exact go (by rw [hx]; simp)
            · have n0 : ¬ liF A.1 A.2.1.1 p y s < 0 := by rw [hx]; exact nI_pos (by omega)
              rw [if_neg n0]
              refine wp_eq (m_bits (show s < 64 by omega) υ) ?_
              have eb := m_bits hj υ
              rw [← hx] at eb
              refine wp_eq eb ?_
              by_cases z2 : bcI (liF A.1 A.2.1.1 p y s) ≤ bcI (nI s)
              · rw [if_pos z2]
                refine wp_pu ⟨?_, hq⟩
                rw [es, if_neg]
                rw [ec]
                simp [Int32.not_lt.mpr z2, n0]
              · rw [if_neg z2]
                exact go (by simp [Int32.not_le.mp z2])
          · rw [if_neg z1]
            exact wp_pu ⟨by rw [es, if_neg (by rw [ec, decide_eq_false z1, Bool.false_and]; decide)], hq⟩
        · rintro r ω ⟨rfl, h2⟩
          rw [lt_eq]
          exact wp_pu (Or.inl ⟨_, rfl, hsn, by rw [nI_1], h2⟩)
      · have : s = 2 ^ A.1.1 2 := by omega
        rw [if_pos (nI_le (by omega) (by omega))]
        exact wp_pu (Or.inr ⟨_, rfl, wp_pu ⟨by rw [this], hq⟩⟩)
    · rw [if_pos (bf q2), if_neg (by simp [q2])]
      exact wp_pu ⟨rfl, eqr_rf⟩
  · rw [if_pos (bf q), if_neg (by simp [q])]
    exact wp_pu ⟨rfl, eqr_rf⟩
theorem ok_17 {σ : MM} (h : Inv σ) (q : Nat → Int32) : okC (fun chk => TL_17 chk q) σ := by
  obtain ⟨A, hV, hC, hM⟩ := h
  exact okC_of (eq := fun x y => x = y) rfl hV hV hM (cq_w hC (c_lift hV hC (q 1) (q 2)) RtC_sc) (fun τ hM => m_lift hV hM (q 1) (q 2))
