noncomputable def FU : Nat := Classical.choose (⟨10000, Nat.le_refl 10000⟩ : ∃ n : Nat, 10000 ≤ n)
theorem FU_ge : 10000 ≤ FU := Classical.choose_spec (⟨10000, Nat.le_refl 10000⟩ : ∃ n : Nat, 10000 ≤ n)
theorem mp {i : Nat} {q : MethodName × Nat} (h : lw_privs[i]? = some q) : Cond.selects q.1.cls q.1 q.1 ∈ lg := by
  refine List.mem_filter.mpr ⟨List.mem_append_left _ (List.mem_map.mpr ⟨q, List.mem_of_getElem? h, rfl⟩), rfl⟩
theorem arr4 {a m : Nat} {i : Int32} (h : ar a 4 m) (hb : ib i m = true) : ob (rf a i.toNatClampNeg) 4 := by
  have := rf_arr4 a h.1 (by rw [h.2]) i.toNatClampNeg (by rw [h.2]; unfold ib at hb; simp only [Bool.and_eq_true, decide_eq_true_eq] at hb; exact hb.2)
  exact this
theorem arr5 {a m : Nat} {i : Int32} (h : ar a 5 m) (hb : ib i m = true) : ob (rf a i.toNatClampNeg) 1 := by
  have := rf_arr5 a h.1 (by rw [h.2]) i.toNatClampNeg (by rw [h.2]; unfold ib at hb; simp only [Bool.and_eq_true, decide_eq_true_eq] at hb; exact hb.2)
  exact this
theorem arr6 {a m : Nat} {i : Int32} (h : ar a 6 m) (hb : ib i m = true) : ar (rf a i.toNatClampNeg) 0 5 := by
  have := rf_arr6 a h.1 (by rw [h.2]) i.toNatClampNeg (by rw [h.2]; unfold ib at hb; simp only [Bool.and_eq_true, decide_eq_true_eq] at hb; exact hb.2)
  exact this
def nn (o : Option (Fin 23)) : PP (Fin 23) := fun σ => match o with
  | some x => some (x, σ)
  | none => none
def rnk : List Int32 := [2, 3, 0, 1]
def aR (i : Int32) : PP Int32 := fun σ => if ib i 4 = true then some (rnk.getD i.toNatClampNeg 0, σ) else none
def aW (i : Int32) : PP (Fin 23) := fun σ => if h : i.toNatClampNeg < 23 then (if ¬ i < 0 then some (⟨i.toNatClampNeg, h⟩, σ) else none) else none
def cpf {α : Type} (f : Nat → Nat → α) (a b n : Nat) : Nat → Nat → α := fun x j => if x = b ∧ j < n then f a j else f x j
def cpI (a b n : Nat) : PP Unit := fun σ => some ((), (cpf σ.1 a b n, σ.2))
def cpL (a b n : Nat) : PP Unit := fun σ => some ((), (σ.1, cpf σ.2.1 a b n, σ.2.2))
def tsw {α : Type} (x : Int32) : List Int32 → List (PP α) → PP α → PP α
  | c :: r, t :: z, d => if x = c then t else tsw x r z d
  | _, _, d => d
theorem tsw_out {α : Type} {x : Int32} {d : PP α} : ∀ {cs : List Int32} {ts : List (PP α)}, (∀ c ∈ cs, x ≠ c) → tsw x cs ts d = d
  | [], ts, _ => by unfold tsw; rfl
  | c :: r, [], _ => by unfold tsw; rfl
  | c :: r, t :: z, h => by
    show (if x = c then t else tsw x r z d) = d
    rw [if_neg (h c List.mem_cons_self)]
    exact tsw_out (fun q hq => h q (List.mem_cons_of_mem _ hq))
theorem tsw_in {α : Type} {x : Int32} {d t : PP α} : ∀ {cs : List Int32} {ts : List (PP α)} {i : Nat}, cs[i]? = some x → ts[i]? = some t → (∀ (j : Nat) (c : Int32), j < i → cs[j]? = some c → x ≠ c) → tsw x cs ts d = t
  | [], ts, i, h, _, _ => by simp at h
  | c :: r, [], i, _, h, _ => by simp at h
  | c :: r, t0 :: z, 0, h, h2, _ => by
    simp at h h2
    subst h
    subst h2
    show (if c = c then t0 else _) = t0
    rw [if_pos rfl]
  | c :: r, t0 :: z, i + 1, h, h2, hn => by
    show (if x = c then t0 else tsw x r z d) = t
    rw [if_neg (hn 0 c (Nat.succ_pos i) rfl)]
    exact tsw_in (i := i) (by simpa using h) (by simpa using h2) (fun j q hj hz => hn (j + 1) q (Nat.succ_lt_succ hj) (by simpa using hz))
def tchk (pc : Nat) (dflt lo hi : Int) (offs : Array Int) (cs : List Int32) (tgs : List Nat) (td : Nat) : Bool := decide (hi = lo + cs.length - 1) && (decide ((pc : Int) + dflt = td) && (decide (tgs.length = cs.length) && (List.range cs.length).all (fun i => decide ((cs.getD i 0).toInt = lo + i) && (match offs[i]? with
  | some o => decide ((pc : Int) + o = tgs.getD i 0)
  | none => false))))
section RPM
variable {ρ : Type} {l : Launch} {K : KK} {n d : Nat} {M : MI} {Z : ZZ} {pc : Nat} {lv : List (Nat × Value)} {st : List Value} {en : ρ → Option Value}
theorem CT.of2 {t : PP ρ} {av : List Value} {lv2 : List (Nat × Value)} (hy : plainName M.2.1.cls = true) (ho : M.1 = M.2.1.cls) (hn : 270 ≤ n) (hL : (lg_sl av).length ≤ M.2.2.2.1) (e : lv_args 0 av = lv2) (h : RP l K n d M (Z0 K n) 0 lv2 [] en t) : CT l K n d M av en t := CT.of hy ho hn hL (by rw [e]; exact h)
theorem rp_join2 {β1 β2 : Type} {r : PP (β1 ⊕ β2)} {α : Type} {f1 : β1 → PP α} {f2 : β2 → PP α} {k : α → PP ρ} (p1 : Nat) (lv1 : β1 → List (Nat × Value)) (st1 : β1 → List Value) (p2 : Nat) (lv2 : β2 → List (Nat × Value)) (st2 : β2 → List Value) (h1 : ∀ v, RP l K n d M Z p1 (lv1 v) (st1 v) en (bd (f1 v) k)) (h2 : ∀ v, RP l K n d M Z p2 (lv2 v) (st2 v) en (bd (f2 v) k)) (hr : (∀ v, RP l K n d M Z p1 (lv1 v) (st1 v) en (bd (f1 v) k)) → (∀ v, RP l K n d M Z p2 (lv2 v) (st2 v) en (bd (f2 v) k)) → RP l K n d M Z pc lv st en (bd r (fun x => bd (Sum.elim f1 f2 x) k))) : RP l K n d M Z pc lv st en (bd r (fun x => bd (Sum.elim f1 f2 x) k)) := hr h1 h2
theorem rp_join3 {β1 β2 β3 : Type} {r : PP (β1 ⊕ (β2 ⊕ β3))} {α : Type} {f1 : β1 → PP α} {f2 : β2 → PP α} {f3 : β3 → PP α} {k : α → PP ρ} (p1 : Nat) (lv1 : β1 → List (Nat × Value)) (st1 : β1 → List Value) (p2 : Nat) (lv2 : β2 → List (Nat × Value)) (st2 : β2 → List Value) (p3 : Nat) (lv3 : β3 → List (Nat × Value)) (st3 : β3 → List Value) (h1 : ∀ v, RP l K n d M Z p1 (lv1 v) (st1 v) en (bd (f1 v) k)) (h2 : ∀ v, RP l K n d M Z p2 (lv2 v) (st2 v) en (bd (f2 v) k)) (h3 : ∀ v, RP l K n d M Z p3 (lv3 v) (st3 v) en (bd (f3 v) k)) (hr : (∀ v, RP l K n d M Z p1 (lv1 v) (st1 v) en (bd (f1 v) k)) → (∀ v, RP l K n d M Z p2 (lv2 v) (st2 v) en (bd (f2 v) k)) → (∀ v, RP l K n d M Z p3 (lv3 v) (st3 v) en (bd (f3 v) k)) → RP l K n d M Z pc lv st en (bd r (fun x => bd (Sum.elim f1 (Sum.elim f2 f3) x) k))) : RP l K n d M Z pc lv st en (bd r (fun x => bd (Sum.elim f1 (Sum.elim f2 f3) x) k)) := hr h1 h2 h3
theorem rp_jn2 {α γ : Type} {f : α → PP γ} {body : (α → PP γ) → PP γ} {k : γ → PP ρ} (pJ : Nat) (lvJ : α → List (Nat × Value)) (stJ : α → List Value) (hk : ∀ v, RP l K n d M Z pJ (lvJ v) (stJ v) en (bd (f v) k)) (hr : (∀ v, RP l K n d M Z pJ (lvJ v) (stJ v) en (bd (f v) k)) → RP l K n d M Z pc lv st en (bd (body f) k)) : RP l K n d M Z pc lv st en (bd (jn f body) k) := hr hk
theorem rp_zretb {x : Int32} (hr : M.2.2.2.2 = some .boolean) (hd : decode M.2.2.1 pc = .ok (.ireturn, 1)) : RP l K n d M (Z0 K n) pc lv [.int x] enZ (bd (zb x) pu) := by rw [bd_pu]; exact rp_zret hr hd
theorem rp_aald6 {α : Type} {f : Unit → PP α} {k : α → PP ρ} {a m : Nat} {i : Int32} (h : ar a 6 m) (hd : decode M.2.2.1 pc = .ok (.aaload, 1)) (kk : ib i m = true → RP l K n d M Z (pc + 1) lv (.ref (K.2.1 + rf a i.toNatClampNeg) :: st) en (bd (f ()) k)) : RP l K n d M Z pc lv (.int i :: .ref (K.2.1 + a) :: st) en (bd (bd (gd (ib i m = true)) f) k) := by
  intro σ r σ' q p e R s me args below meth c C H locs ls hP hS hl
  by_cases hb : ib i m = true
  · have q2 : bd (f ()) k σ = some (r, σ') := by simpa [bd, gd, hb] using q
    have hk := kk hb σ r σ' q2 p e R s me args below meth c C H locs ls hP hS hl
    have hin := ib_in hb
    have hlt : i.toNatClampNeg < m := Nat.not_le.mp fun q => hin (Or.inr q)
    have hc := hP a _ (wl_ar C.nn h)
    exact W.aald (v := .ref (K.2.1 + rf a i.toNatClampNeg)) (ty := .array .int) C.1 C.2.1 hc ((C.k.2 6 _ rfl).1 m (fun j => va_rf (some (K.2.1 + rf a j)))) rfl (fun q => by cases q) (by show ¬ (i < 0 ∨ (arrV _ _ _).slots.size ≤ _); rw [arrV_size]; exact hin) (by show (arrV _ _ _).slots[_]? = _; rw [arrV_read _ _ hlt]; rfl) rfl rfl hd hk
  · simp [bd, gd, hb] at q
theorem ce_oW {σ : MM} {b : Nat} {w : Option (Fin 23)} (hn : b < 271) (hb : b ≠ 1) : ce K (σ.1, σ.2.1, w) b = ce K σ b := by
  unfold ce
  by_cases h : (sh b).1 < 100
  · rw [if_pos h, if_pos h]
    have e2 : ∀ j, j < nfd (sh b).1 → fv K (σ.1, σ.2.1, w) (sh b).1 b j = fv K σ (sh b).1 b j := by
      intro j hj
      unfold fv
      by_cases h0 : fty (sh b).1 j = 0
      · rw [h0]; rfl
      · by_cases h1 : fty (sh b).1 j = 1
        · rw [h1]; rfl
        · by_cases h2 : fty (sh b).1 j = 2
          · rw [h2]; rfl
          · have h5 := fty3 _ h j hj h0 h1 h2
            have : sh b = (5, 0) := by
              have h6 : (sh b).2 = 0 := (show ∀ b, b < 271 → (sh b).1 = 5 → (sh b).2 = 0 by decide +kernel) b hn h5
              exact Prod.ext h5 h6
            exact absurd (sh5 b hn this) hb
    congr 2
    apply List.map_congr_left
    intro j hj
    exact e2 j (List.mem_range.mp hj)
  · rw [if_neg h, if_neg h]
    rfl
theorem shbig : ∀ b, 271 ≤ b → sh b = (0, 0) := by
  intro b h
  unfold sh
  have : shp.length ≤ b := Nat.le_trans (by decide +kernel) h
  simp [List.getD, List.getElem?_eq_none this]
theorem ce_oW2 {σ : MM} {b : Nat} {w : Option (Fin 23)} (hb : b ≠ 1) : ce K (σ.1, σ.2.1, w) b = ce K σ b := by
  by_cases hn : b < 271
  · exact ce_oW hn hb
  · have h := shbig b (by omega)
    unfold ce
    rw [h]
    rw [if_pos (by decide), if_pos (by decide)]
    congr 2
theorem wr_or (w : Option (Fin 23)) : wr K w = .null ∨ ∃ a, wr K w = .ref a := va_re_or _ _
theorem rp_putW {α : Type} {f : Unit → PP α} {k : α → PP ρ} {idx cl j a : Nat} {x : Option (Fin 23)} (hi : FI M.1 idx cl j) (hp : FP cl j (.object "LaundrySky$Word")) (h : ob a cl) (hc : (decide (cl < 100) && decide (fty cl j = 3) && decide (cl = 5) && decide (j = 3)) = true) (hd : decode M.2.2.1 pc = .ok (.putfield idx, 3)) (kk : RP l K n d M Z (pc + 3) lv st en (bd (f ()) k)) : RP l K n d M Z pc lv (wr K x :: .ref (K.2.1 + a) :: st) en (bd (bd (sW x) f) k) := by
  simp only [Bool.and_eq_true, decide_eq_true_eq] at hc
  obtain ⟨⟨⟨hc1, hc2⟩, rfl⟩, rfl⟩ := hc
  have ha : a = 1 := sh5 a (Nat.lt_succ_of_lt h.1) h.2
  intro σ r σ' q
  refine rw_put (σ2 := (σ.1, σ.2.1, x)) hi hp h hc1 ?_ ?_ (fun b _ hb => ce_oW2 (by rw [← ha]; exact hb)) (by rw [fv3 hc2]) (fun i hi2 hij => ?_) hd (kk _ r σ' q)
  · cases x <;> rfl
  · cases x <;> rfl
  · have : ∀ i, i < nfd 5 → i ≠ 3 → fty 5 i = 0 ∨ fty 5 i = 1 ∨ fty 5 i = 2 := by decide +kernel
    rcases this i hi2 hij with e | e | e
    · rw [fv0 e, fv0 e]
    · rw [fv1 e, fv1 e]
    · rw [fv2 e, fv2 e]
theorem rp_getWord {t : PP ρ} {idx : Nat} (w : Fin 23) (hw : Cond.fieldLink M.1 idx eW (wnm.getD w.val "") dW ∈ lg) (hd : decode M.2.2.1 pc = .ok (.getstatic idx, 3)) (k : RP l K n d M Z (pc + 3) lv (wr K (some w) :: st) en t) : RP l K n d M Z pc lv st en t := by
  intro σ r σ' q p e R s m args below meth c C H locs ls hP hS hl
  exact va_gets C.1 C.2.1 (C.ks.1.1 w.val w.isLt).1 hS C.own (C.w hw) (fun _ h => h) hd (k σ r σ' q p e R s m args below meth c C H locs ls hP hS hl)
theorem rp_getGg {α : Type} {f : Fin 23 → PP α} {k : α → PP ρ} {idx : Nat} {o : Option (Fin 23)} (hw : Cond.fieldLink M.1 idx eW "group" "I" ∈ lg) (hd : decode M.2.2.1 pc = .ok (.getfield idx, 3)) (kk : ∀ x : Fin 23, RP l K n d M Z (pc + 3) lv (.int (wgr.getD x.val 0) :: st) en (bd (f x) k)) : RP l K n d M Z pc lv (wr K o :: st) en (bd (bd (nn o) f) k) := by
  intro σ r σ' q p e R s m args below meth c C H locs ls hP hS hl
  cases o with
  | none => cases q
  | some w => exact va_getE C.1 C.2.1 C.ks.1 w.isLt hS C.own (q := (eW, "group", "I", wgr)) List.mem_cons_self (C.w hw) (fun _ h => h) hd (kk w σ r σ' q p e R s m args below meth c C H locs ls hP hS hl)
theorem rp_getGv {α : Type} {f : Fin 23 → PP α} {k : α → PP ρ} {idx : Nat} {o : Option (Fin 23)} (hw : Cond.fieldLink M.1 idx eW "value" "I" ∈ lg) (hd : decode M.2.2.1 pc = .ok (.getfield idx, 3)) (kk : ∀ x : Fin 23, RP l K n d M Z (pc + 3) lv (.int (wva.getD x.val 0) :: st) en (bd (f x) k)) : RP l K n d M Z pc lv (wr K o :: st) en (bd (bd (nn o) f) k) := by
  intro σ r σ' q p e R s m args below meth c C H locs ls hP hS hl
  cases o with
  | none => cases q
  | some w => exact va_getE C.1 C.2.1 C.ks.1 w.isLt hS C.own (q := (eW, "value", "I", wva)) (List.mem_cons_of_mem _ List.mem_cons_self) (C.w hw) (fun _ h => h) hd (kk w σ r σ' q p e R s m args below meth c C H locs ls hP hS hl)
theorem rp_getRanks {t : PP ρ} {idx : Nat} (hw : (M.1, idx, "LaundrySky", "RANKS", "[I") ∈ nwF) (hd : decode M.2.2.1 pc = .ok (.getstatic idx, 3)) (k : RP l K n d M Z (pc + 3) lv (.ref (K.2.2.2 300) :: st) en t) : RP l K n d M Z pc lv st en t := by
  intro σ r σ' q p e R s m args below meth c C H locs ls hP hS hl
  exact va_getsN C.1 C.2.1 C.ks.2.2.2.1 hS C.own (va_Nw.use rfl (C.ks.2.2.2.2.2.2.2.2.2.2.1 _ hw)) (fun _ h => h) hd (k σ r σ' q p e R s m args below meth c C H locs ls hP hS hl)
theorem rp_getAll {t : PP ρ} {idx : Nat} (hw : (M.1, idx, eW, "ALL", "[LLaundrySky$Word;") ∈ nwF) (hd : decode M.2.2.1 pc = .ok (.getstatic idx, 3)) (k : RP l K n d M Z (pc + 3) lv (.ref (K.2.2.2 301) :: st) en t) : RP l K n d M Z pc lv st en t := by
  intro σ r σ' q p e R s m args below meth c C H locs ls hP hS hl
  exact va_getsN C.1 C.2.1 C.ks.2.2.2.2.2.1 hS C.own (va_Nw.use rfl (C.ks.2.2.2.2.2.2.2.2.2.2.1 _ hw)) (fun _ h => h) hd (k σ r σ' q p e R s m args below meth c C H locs ls hP hS hl)
theorem rp_aldRanks {α : Type} {f : Int32 → PP α} {k : α → PP ρ} {i : Int32} (hd : decode M.2.2.1 pc = .ok (.iaload, 1)) (kk : ∀ x, RP l K n d M Z (pc + 1) lv (.int x :: st) en (bd (f x) k)) : RP l K n d M Z pc lv (.int i :: .ref (K.2.2.2 300) :: st) en (bd (bd (aR i) f) k) := by
  intro σ r σ' q p e R s m args below meth c C H locs ls hP hS hl
  by_cases hb : ib i 4 = true
  · have q2 : bd (f (rnk.getD i.toNatClampNeg 0)) k σ = some (r, σ') := by simpa [bd, aR, hb] using q
    exact va_ti C.1 C.2.1 C.ks.2.2.2.2.1 hS (ib_in hb) rfl hd (kk _ σ r σ' q2 p e R s m args below meth c C H locs ls hP hS hl)
  · simp [bd, aR, hb] at q
theorem rp_lenAll {t : PP ρ} (hd : decode M.2.2.1 pc = .ok (.arraylength, 1)) (k : RP l K n d M Z (pc + 1) lv (.int 23 :: st) en t) : RP l K n d M Z pc lv (.ref (K.2.2.2 301) :: st) en t := by
  intro σ r σ' q p e R s m args below meth c C H locs ls hP hS hl
  exact va_tlen C.1 C.2.1 C.ks.2.2.2.2.2.2.1 hS rfl hd (k σ r σ' q p e R s m args below meth c C H locs ls hP hS hl)
theorem rp_aldAll {α : Type} {f : Fin 23 → PP α} {k : α → PP ρ} {i : Int32} (hd : decode M.2.2.1 pc = .ok (.aaload, 1)) (kk : ∀ x, RP l K n d M Z (pc + 1) lv (wr K (some x) :: st) en (bd (f x) k)) : RP l K n d M Z pc lv (.int i :: .ref (K.2.2.2 301) :: st) en (bd (bd (aW i) f) k) := by
  intro σ r σ' q p e R s m args below meth c C H locs ls hP hS hl
  by_cases h1 : i.toNatClampNeg < 23
  · by_cases h2 : i < 0
    · simp [bd, aW, h1, h2] at q
    · have q2 : bd (f ⟨i.toNatClampNeg, h1⟩) k σ = some (r, σ') := by simpa [bd, aW, h1, h2] using q
      exact vb_tq C.1 C.2.1 C.ks.2.2.2.2.2.2.1 hS (fun z => by rcases z with z | z; exact h2 z; omega) rfl hd (kk _ σ r σ' q2 p e R s m args below meth c C H locs ls hP hS hl)
  · simp [bd, aW, h1] at q
theorem wr_inj {p : Program} {R : Room} {s : State} {m : MethodId} {args : Array Value} {meth : Method} {c : Code} (C : CX K n d M Z p R s m args meth c) {x y : Option (Fin 23)} : ((x.map Fin.val).map K.2.2.2 = (y.map Fin.val).map K.2.2.2) ↔ x = y := by
  constructor
  · intro h
    cases x with
    | none => cases y with
      | none => rfl
      | some b => simp at h
    | some a => cases y with
      | none => simp at h
      | some b =>
        simp at h
        have := C.ks.1.2 a.val b.val a.isLt b.isLt h
        rw [Fin.ext this]
  · rintro rfl; rfl
theorem rp_acmp_eq {α : Type} {A B : PP α} {k : α → PP ρ} {x y : Option (Fin 23)} {i : Decidable (x = y)} {off : Int} (tgt : Nat) (hd : decode M.2.2.1 pc = .ok (.if_acmp .eq off, 3)) (ht : (pc : Int) + off = (tgt : Int)) (kt : RP l K n d M Z tgt lv st en (bd A k)) (kf : RP l K n d M Z (pc + 3) lv st en (bd B k)) : RP l K n d M Z pc lv (wr K y :: wr K x :: st) en (bd (@ite _ (x = y) i A B) k) := by
  intro σ r σ' h p e R s m args below meth c C H locs ls hP hS hl
  refine lv_acmp_eq C.1 C.2.1 hd ht (fun q => kt σ r σ' ?_ p e R s m args below meth c C H locs ls hP hS hl) (fun q => kf σ r σ' ?_ p e R s m args below meth c C H locs ls hP hS hl)
  · simpa only [if_pos ((wr_inj C).mp q)] using h
  · simpa only [if_neg (fun z => q ((wr_inj C).mpr z))] using h
theorem rp_acmp_ne {α : Type} {A B : PP α} {k : α → PP ρ} {x y : Option (Fin 23)} {i : Decidable (x = y)} {off : Int} (tgt : Nat) (hd : decode M.2.2.1 pc = .ok (.if_acmp .ne off, 3)) (ht : (pc : Int) + off = (tgt : Int)) (kt : RP l K n d M Z tgt lv st en (bd B k)) (kf : RP l K n d M Z (pc + 3) lv st en (bd A k)) : RP l K n d M Z pc lv (wr K y :: wr K x :: st) en (bd (@ite _ (x = y) i A B) k) := by
  intro σ r σ' h p e R s m args below meth c C H locs ls hP hS hl
  refine lv_acmp_ne C.1 C.2.1 hd ht (fun q => kt σ r σ' ?_ p e R s m args below meth c C H locs ls hP hS hl) (fun q => kf σ r σ' ?_ p e R s m args below meth c C H locs ls hP hS hl)
  · simpa only [if_neg (fun z => q ((wr_inj C).mpr z))] using h
  · simpa only [if_pos ((wr_inj C).mp q)] using h
theorem rp_ifnull {α : Type} {A B : PP α} {k : α → PP ρ} {x : Option (Fin 23)} {i : Decidable (x = none)} {off : Int} (tgt : Nat) (hd : decode M.2.2.1 pc = .ok (.ifnull off, 3)) (ht : (pc : Int) + off = (tgt : Int)) (kt : RP l K n d M Z tgt lv st en (bd A k)) (kf : RP l K n d M Z (pc + 3) lv st en (bd B k)) : RP l K n d M Z pc lv (wr K x :: st) en (bd (@ite _ (x = none) i A B) k) := by
  intro σ r σ' h p e R s m args below meth c C H locs ls hP hS hl
  cases x with
  | none => exact lv_ifnullN C.1 C.2.1 hd ht (kt σ r σ' (by simpa using h) p e R s m args below meth c C H locs ls hP hS hl)
  | some w => exact lv_ifnull C.1 C.2.1 hd (kf σ r σ' (by simpa using h) p e R s m args below meth c C H locs ls hP hS hl)
theorem rp_ifnonnull {α : Type} {A B : PP α} {k : α → PP ρ} {x : Option (Fin 23)} {i : Decidable (x = none)} {off : Int} (tgt : Nat) (hd : decode M.2.2.1 pc = .ok (.ifnonnull off, 3)) (ht : (pc : Int) + off = (tgt : Int)) (kt : RP l K n d M Z tgt lv st en (bd B k)) (kf : RP l K n d M Z (pc + 3) lv st en (bd A k)) : RP l K n d M Z pc lv (wr K x :: st) en (bd (@ite _ (x = none) i A B) k) := by
  intro σ r σ' h p e R s m args below meth c C H locs ls hP hS hl
  cases x with
  | none => exact lv_ifnonnullN C.1 C.2.1 hd (kf σ r σ' (by simpa using h) p e R s m args below meth c C H locs ls hP hS hl)
  | some w => exact lv_ifnonnull C.1 C.2.1 hd ht (kt σ r σ' (by simpa using h) p e R s m args below meth c C H locs ls hP hS hl)
def RPL {α : Type} (l : Launch) (K : KK) (n d : Nat) (M : MI) (Z : ZZ) (lv : List (Nat × Value)) (st : List Value) (en : ρ → Option Value) (k : α → PP ρ) : List Nat → List (PP α) → Prop
  | tg :: r, t :: z => RP l K n d M Z tg lv st en (bd t k) ∧ RPL l K n d M Z lv st en k r z
  | _, _ => True
theorem RPL.at {α : Type} {k : α → PP ρ} : ∀ {tgs : List Nat} {ts : List (PP α)} {i : Nat} {t : PP α} {tg : Nat}, RPL l K n d M Z lv st en k tgs ts → ts[i]? = some t → tgs[i]? = some tg → RP l K n d M Z tg lv st en (bd t k)
  | [], ts, i, q, tg, _, _, h2 => by simp at h2
  | t0 :: r, [], i, q, tg, _, h1, _ => by simp at h1
  | t0 :: r, q0 :: z, 0, q, tg, h, h1, h2 => by
    simp at h1 h2
    subst h1
    subst h2
    exact h.1
  | t0 :: r, q0 :: z, i + 1, q, tg, h, h1, h2 => RPL.at (i := i) h.2 (by simpa using h1) (by simpa using h2)
theorem rp_tsw {α : Type} {cs : List Int32} {ts : List (PP α)} {B : PP α} {k : α → PP ρ} {x : Int32} {dflt lo hi : Int} {offs : Array Int} {len : Nat} (tgs : List Nat) (td : Nat) (hd : decode M.2.2.1 pc = .ok (.tableswitch dflt lo hi offs, len)) (hcs : ts.length = cs.length) (hc : tchk pc dflt lo hi offs cs tgs td = true) (ht : RPL l K n d M Z lv st en k tgs ts) (kd : RP l K n d M Z td lv st en (bd B k)) : RP l K n d M Z pc lv (.int x :: st) en (bd (tsw x cs ts B) k) := by
  intro σ r σ' h p e R s m args below meth c C H locs ls hP hS hl
  unfold tchk at hc
  simp only [Bool.and_eq_true, decide_eq_true_eq, List.all_eq_true, List.mem_range] at hc
  obtain ⟨h1, h2, h3, h4⟩ := hc
  have hat : ∀ i q, cs[i]? = some q → i < cs.length ∧ q.toInt = lo + i := by
    intro i q hq
    have hi2 : i < cs.length := (List.getElem?_eq_some_iff.mp hq).1
    refine ⟨hi2, ?_⟩
    have h5 := (h4 i hi2).1
    rw [List.getD_eq_getElem?_getD, hq] at h5
    exact h5
  by_cases hx : x.toInt < lo ∨ hi < x.toInt
  · have e1 : tsw x cs ts B = B := tsw_out (fun q hq => by
      obtain ⟨i, hi⟩ := List.getElem?_of_mem hq
      obtain ⟨g1, g2⟩ := hat i q hi
      intro ex
      rw [ex, g2] at hx
      omega)
    rw [e1] at h
    exact lv_tableOut C.1 C.2.1 hd hx h2 (kd σ r σ' h p e R s m args below meth c C H locs ls hP hS hl)
  · have hx1 : ¬ x.toInt < lo := fun z => hx (Or.inl z)
    have hx2 : ¬ hi < x.toInt := fun z => hx (Or.inr z)
    have hi : (x.toInt - lo).toNat < cs.length := by omega
    obtain ⟨q, hq⟩ : ∃ q, cs[(x.toInt - lo).toNat]? = some q := ⟨_, List.getElem?_eq_getElem hi⟩
    obtain ⟨t, hq2⟩ : ∃ t, ts[(x.toInt - lo).toNat]? = some t := ⟨_, List.getElem?_eq_getElem (by omega)⟩
    obtain ⟨g1, g2⟩ := hat _ q hq
    have hqx : q = x := Int32.toInt_inj.mp (by omega)
    have e1 : tsw x cs ts B = t := tsw_in (i := (x.toInt - lo).toNat) (by rw [hq, hqx]) hq2 (fun j z hj hz ex => by
      obtain ⟨_, f2⟩ := hat j z hz
      rw [← ex] at f2
      omega)
    rw [e1] at h
    have h6 := (h4 _ g1).2
    cases ho : offs[(x.toInt - lo).toNat]? with
    | none => rw [ho] at h6; cases h6
    | some off =>
      rw [ho] at h6
      simp only [decide_eq_true_eq] at h6
      have htg : tgs[(x.toInt - lo).toNat]? = some (tgs.getD (x.toInt - lo).toNat 0) := by
        rw [List.getD_eq_getElem?_getD, List.getElem?_eq_getElem (by omega)]
        rfl
      exact lv_tableIn C.1 C.2.1 hd hx1 hx2 ho h6 (RPL.at ht hq2 htg σ r σ' h p e R s m args below meth c C H locs ls hP hS hl)
theorem arcp : (Cond.native arraycopyName ∈ lg) ∧ (Cond.static arraycopyName ∈ lg) ∧ (Cond.initialized "java/lang/System" ∈ lg) := ⟨mw (i := 725) (by decide +kernel), mw (i := 724) (by decide +kernel), mw (i := 22) (by decide +kernel)⟩
theorem nfw : nativeFrameWords "java/lang/System" "arraycopy" 5 + 11 ≤ 24 := by decide +kernel
theorem rp_cpI {α : Type} {f : Unit → PP α} {k : α → PP ρ} {a b n0 n1 idx : Nat} (m : Nat) (ha : ar a 0 n0) (hb : ar b 0 n1) (h0 : m ≤ n0) (h1 : m ≤ n1) (hm : (Int32.ofNat m).toNatClampNeg = m ∧ ¬ Int32.ofNat m < 0) (hw : Cond.methodLink M.1 idx arraycopyName ∈ lg) (hd1 : 1 ≤ d) (hW : (st.map fun v => v.category).sum ≤ 8) (hd : decode M.2.2.1 pc = .ok (.invokestatic idx, 3)) (kk : RP l K n d M Z (pc + 3) lv st en (bd (f ()) k)) : RP l K n d M Z pc lv (.int (Int32.ofNat m) :: .int 0 :: .ref (K.2.1 + b) :: .int 0 :: .ref (K.2.1 + a) :: st) en (bd (bd (cpI a b m) f) k) := by
  intro σ r σ' q p e R s me args below meth c C H locs ls hP hS hl
  have hbn : b < n := Nat.lt_of_lt_of_le hb.1 C.nn
  have hR := C.2.2.2.2.2.2.2.2.1
  have z0 : (0 : Int32).toNatClampNeg = 0 := rfl
  refine va_copyi (ty := .int) C.1 C.2.1 (C.2.2.2.1.trans hl.1.symm) C.own (C.w hw) (C.w arcp.1) (C.w arcp.2.1) (C.w arcp.2.2) C.k hP (wl_D K n σ) hS a b 0 0 (wl_ar C.nn ha) (wl_ar C.nn hb) rfl rfl rfl (by decide) (by decide) hm.2 (by rw [z0, hm.1]; omega) (by rw [z0, hm.1]; omega) (fun i _ => rfl) (Nat.le_trans hd1 hR.1) (by have := nfw; have := hR.2.1; omega) hd (fun H1 locs1 hP1 hD1 hS1 => ?_)
  rw [wl_set (σ' := (cpf σ.1 a b m, σ.2)) hbn (by
    rw [ce_ar hb]
    unfold ca
    simp only [hm.1, z0]
    congr 4
    funext j
    simp [cpf, va_cpy]) (fun b2 _ hb2 => by
      have e : ∀ j, cpf σ.1 a b m b2 j = σ.1 b2 j := fun j => by simp [cpf, hb2]
      have e2 : ∀ c : Nat, fv K (cpf σ.1 a b m, σ.2) c b2 = fv K σ c b2 := fun c => by
        funext j
        unfold fv
        simp only [e]
      unfold ce ca
      simp only [e, e2])] at hP1
  exact kk _ r σ' q p e R s me args below meth c C H1 locs1 ls hP1 hS1 hl
theorem rp_cpL {α : Type} {f : Unit → PP α} {k : α → PP ρ} {a b n0 n1 idx : Nat} (m : Nat) (ha : ar a 1 n0) (hb : ar b 1 n1) (h0 : m ≤ n0) (h1 : m ≤ n1) (hm : (Int32.ofNat m).toNatClampNeg = m ∧ ¬ Int32.ofNat m < 0) (hw : Cond.methodLink M.1 idx arraycopyName ∈ lg) (hd1 : 1 ≤ d) (hW : (st.map fun v => v.category).sum ≤ 8) (hd : decode M.2.2.1 pc = .ok (.invokestatic idx, 3)) (kk : RP l K n d M Z (pc + 3) lv st en (bd (f ()) k)) : RP l K n d M Z pc lv (.int (Int32.ofNat m) :: .int 0 :: .ref (K.2.1 + b) :: .int 0 :: .ref (K.2.1 + a) :: st) en (bd (bd (cpL a b m) f) k) := by
  intro σ r σ' q p e R s me args below meth c C H locs ls hP hS hl
  have hbn : b < n := Nat.lt_of_lt_of_le hb.1 C.nn
  have hR := C.2.2.2.2.2.2.2.2.1
  have z0 : (0 : Int32).toNatClampNeg = 0 := rfl
  refine va_copyl (ty := .long) C.1 C.2.1 (C.2.2.2.1.trans hl.1.symm) C.own (C.w hw) (C.w arcp.1) (C.w arcp.2.1) (C.w arcp.2.2) C.k hP (wl_D K n σ) hS a b 1 1 (wl_ar C.nn ha) (wl_ar C.nn hb) rfl rfl rfl (by decide) (by decide) hm.2 (by rw [z0, hm.1]; omega) (by rw [z0, hm.1]; omega) (fun i _ => rfl) (Nat.le_trans hd1 hR.1) (by have := nfw; have := hR.2.1; omega) hd (fun H1 locs1 hP1 hD1 hS1 => ?_)
  rw [wl_set (σ' := (σ.1, cpf σ.2.1 a b m, σ.2.2)) hbn (by
    rw [ce_ar hb]
    unfold ca
    simp only [hm.1, z0]
    congr 5
    funext j
    simp [cpf, va_cpy]) (fun b2 _ hb2 => by
      have e : ∀ j, cpf σ.2.1 a b m b2 j = σ.2.1 b2 j := fun j => by simp [cpf, hb2]
      have e2 : ∀ c : Nat, fv K (σ.1, cpf σ.2.1 a b m, σ.2.2) c b2 = fv K σ c b2 := fun c => by
        funext j
        unfold fv
        simp only [e]
      unfold ce ca
      simp only [e, e2])] at hP1
  exact kk _ r σ' q p e R s me args below meth c C H1 locs1 ls hP1 hS1 hl
end RPM
section RPX
variable {ρ : Type} {l : Launch} {K : KK} {n d : Nat} {M : MI} {Z : ZZ} {pc : Nat} {lv : List (Nat × Value)} {st : List Value} {en : ρ → Option Value}
theorem mp2 {i : Nat} {y : MethodName} (k : Nat) (h : lw_privs[i]? = some (y, k)) : Cond.selects y.cls y y ∈ lg := mp h
theorem mxw : (Cond.static Lib.Math.max.name ∈ lg) ∧ (Cond.initialized "java/lang/Math" ∈ lg) ∧ (Cond.code Lib.Math.max.name Lib.Math.max.code 2 (some .int) ∈ lg) := ⟨mw (i := 535) (by decide +kernel), mw (i := 19) (by decide +kernel), mw (i := 536) (by decide +kernel)⟩
theorem mnw : (Cond.static Lib.Math.min.name ∈ lg) ∧ (Cond.initialized "java/lang/Math" ∈ lg) ∧ (Cond.code Lib.Math.min.name Lib.Math.min.code 2 (some .int) ∈ lg) := ⟨mw (i := 538) (by decide +kernel), mw (i := 19) (by decide +kernel), mw (i := 539) (by decide +kernel)⟩
theorem rp_mmax {t : PP ρ} {idx : Nat} {x y : Int32} (hw : Cond.methodLink M.1 idx Lib.Math.max.name ∈ lg) (hd1 : 1 ≤ d) (hW : (st.map fun v => v.category).sum ≤ 8) (hd : decode M.2.2.1 pc = .ok (.invokestatic idx, 3)) (k : RP l K n d M Z (pc + 3) lv (.int (if x < y then y else x) :: st) en t) : RP l K n d M Z pc lv (.int y :: .int x :: st) en t := by
  intro σ r σ' q p e R s m args below meth c C H locs ls hP hS hl
  have hR := C.2.2.2.2.2.2.2.2.1
  exact va_mmax C.1 C.2.1 (C.2.2.2.1.trans hl.1.symm) C.own (C.w hw) (C.w mxw.1) (C.w mxw.2.1) (C.w mxw.2.2) (Nat.le_trans hd1 hR.1) (by have := hR.2.1; omega) hR.2.2.1 hR.2.2.2 hd (k σ r σ' q p e R s m args below meth c C H locs ls hP hS hl)
theorem rp_mmin {t : PP ρ} {idx : Nat} {x y : Int32} (hw : Cond.methodLink M.1 idx Lib.Math.min.name ∈ lg) (hd1 : 1 ≤ d) (hW : (st.map fun v => v.category).sum ≤ 8) (hd : decode M.2.2.1 pc = .ok (.invokestatic idx, 3)) (k : RP l K n d M Z (pc + 3) lv (.int (if y < x then y else x) :: st) en t) : RP l K n d M Z pc lv (.int y :: .int x :: st) en t := by
  intro σ r σ' q p e R s m args below meth c C H locs ls hP hS hl
  have hR := C.2.2.2.2.2.2.2.2.1
  exact va_mmin C.1 C.2.1 (C.2.2.2.1.trans hl.1.symm) C.own (C.w hw) (C.w mnw.1) (C.w mnw.2.1) (C.w mnw.2.2) (Nat.le_trans hd1 hR.1) (by have := hR.2.1; omega) hR.2.2.1 hR.2.2.2 hd (k σ r σ' q p e R s m args below meth c C H locs ls hP hS hl)
end RPX
section RPN
variable {ρ : Type} {l : Launch} {K : KK} {n d : Nat} {M : MI} {Z : ZZ} {pc : Nat} {lv : List (Nat × Value)} {st : List Value} {en : ρ → Option Value}
/-- a private method of a nest mate, void -/
theorem rp_callVNv {α : Type} {g : Unit → PP α} {k : α → PP ρ} {M' : MI} {ps idx d' b cl : Nat} {stk : List Value} {f : PP Unit} (As : List Value) (hM : CT l K n d' M' (.ref (K.2.1 + b) :: As) enU f) (hv : CV M' ps) (hl : (M.1, idx, M'.2.1) ∈ nwM) (hdd : d' + 1 ≤ d) (hob : ob b cl) (hcl : cl < 100) (hcn : (cl0[cl]?).map (fun q => q.1) = some M'.2.1.cls) (hn : As.length = ps) (hst : stk = As.reverse ++ .ref (K.2.1 + b) :: st) (hW : (st.map fun v => v.category).sum ≤ 8) (hd : decode M.2.2.1 pc = .ok (.invokevirtual idx, 3)) (kk : ∀ x, RP l K n d M Z (pc + 3) lv (st) en (bd (g x) k)) : RP l K n d M Z pc lv stk en (bd (bd f g) k) := by
  intro σ r σ' q
  obtain ⟨x, σ1, q1, q2⟩ := bd2_some q
  subst hst
  intro p e R s m args below meth c C H locs ls hP hS hl2
  obtain ⟨cq, hc1, hc2⟩ : ∃ q, cl0[cl]? = some q ∧ q.1 = M'.2.1.cls := by
    cases h : cl0[cl]? with
    | none => rw [h] at hcn; cases hcn
    | some q => rw [h] at hcn; exact ⟨q, rfl, Option.some.inj hcn⟩
  have hrecv := va_recv C.k hP hc1 (wl_ob C.nn hob hcl)
  rw [hc2] at hrecv
  have hR := C.2.2.2.2.2.2.2.2.1
  have hcn2 : va_CN R s args M.1 idx M'.2.1 "LaundrySky" M'.2.2.1 M'.2.2.2.1 M'.2.2.2.2 (mws M') (rmd d') 0 0 ps := ⟨⟨rfl, rfl, Nat.le_trans hdd hR.1, by have := hv.1.2.2.2; have := hR.2.1; show 8 + (M'.2.2.2.1 + 11) + 32 * d' ≤ R.locals; omega, pay_in C.2.2.2.2.2.1 (good_mws hv.1.1), List.mem_cons_self⟩, C.w hv.1.1, C.w hv.1.2.1, ⟨hv.1.2.2.1.1, hv.1.2.2.1.2.1⟩, fun sig h => by
    have h2 := hv.1.2.2.1.2.2
    rw [h] at h2
    exact (Option.some.inj h2).symm, va_Nw.use rfl (C.ks.2.2.2.2.2.2.2.2.2.2.2 _ hl)⟩
  refine rw_back (av := .ref (K.2.1 + b) :: As) (M' := M') (ps := ps) (idx := idx) (d' := d') (va_runVN (As := As) (rest := st) (nL := M.2.2.2.1) (Ts := mws M) (own := M.1) (C := M'.2.1.cls) ⟨C.1, C.2.1, C.2.2.2.1, C.own, C.2.2.2.2.2.1⟩ (hM σ x σ1 q1) ⟨hcn2, C.w hv.2.1, C.w hv.2.2⟩ ⟨ct_blind, hrecv, fun U hU hW2 => ⟨rfl, C.2.2.2.2.2.2.2.1.mv hS hU hW2, by rw [hU]; exact hP⟩⟩ rfl hn hl2.1 rfl (lv_room hW) hd ⟨hR.2.2.1, hR.2.2.2⟩) C hS hl2 ?_
  rintro v σ2 ⟨rfl, rfl⟩
  exact kk x _ r σ' q2
end RPN
section RPE
variable {ρ : Type} {l : Launch} {K : KK} {n d : Nat} {M : MI} {Z : ZZ} {pc : Nat} {lv : List (Nat × Value)} {st : List Value} {en : ρ → Option Value}
theorem rp_puR {α β : Type} {F : α → PP ρ} {k : β → PP ρ} {b : β} (h : RP l K n d M Z pc lv st en (k b)) : RP l K n d M Z pc lv st en (bd (pu (Sum.inr b)) (Sum.elim F k)) := h
theorem rp_puRL {α β1 β2 γ : Type} {F : α → PP ρ} {f1 : β1 → PP γ} {f2 : β2 → PP γ} {k : γ → PP ρ} {b : β1} (h : RP l K n d M Z pc lv st en (bd (f1 b) k)) : RP l K n d M Z pc lv st en (bd (pu (Sum.inr (Sum.inl b))) (Sum.elim F (fun x => bd (Sum.elim f1 f2 x) k))) := h
theorem rp_puRR {α β1 β2 γ : Type} {F : α → PP ρ} {f1 : β1 → PP γ} {f2 : β2 → PP γ} {k : γ → PP ρ} {b : β2} (h : RP l K n d M Z pc lv st en (bd (f2 b) k)) : RP l K n d M Z pc lv st en (bd (pu (Sum.inr (Sum.inr b))) (Sum.elim F (fun x => bd (Sum.elim f1 f2 x) k))) := h
theorem rp_puRRL {α β1 β2 β3 γ : Type} {F : α → PP ρ} {f1 : β1 → PP γ} {f2 : β2 → PP γ} {f3 : β3 → PP γ} {k : γ → PP ρ} {b : β2} (h : RP l K n d M Z pc lv st en (bd (f2 b) k)) : RP l K n d M Z pc lv st en (bd (pu (Sum.inr (Sum.inr (Sum.inl b)))) (Sum.elim F (fun x => bd (Sum.elim f1 (Sum.elim f2 f3) x) k))) := h
theorem rp_puRRR {α β1 β2 β3 γ : Type} {F : α → PP ρ} {f1 : β1 → PP γ} {f2 : β2 → PP γ} {f3 : β3 → PP γ} {k : γ → PP ρ} {b : β3} (h : RP l K n d M Z pc lv st en (bd (f3 b) k)) : RP l K n d M Z pc lv st en (bd (pu (Sum.inr (Sum.inr (Sum.inr b)))) (Sum.elim F (fun x => bd (Sum.elim f1 (Sum.elim f2 f3) x) k))) := h
end RPE
