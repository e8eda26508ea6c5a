section RPH
variable {ρ : Type} {l : Launch} {K : KK} {n d : Nat} {M : MI} {Z : ZZ} {pc : Nat} {lv : List (Nat × Value)} {st : List Value} {en : ρ → Option Value}
theorem CX.own {p : Program} {R : Room} {s : State} {m : MethodId} {args : Array Value} {meth : Method} {c : Code} (C : CX K n d M Z p R s m args meth c) : s.vm.findClass M.1 = some m.cls := C.2.2.2.2.1
theorem CX.w {p : Program} {R : Room} {s : State} {m : MethodId} {args : Array Value} {meth : Method} {c : Code} (C : CX K n d M Z p R s m args meth c) {w : Cond} (h : w ∈ lg) : w.before args s = true := C.2.2.2.2.2.1 w (List.mem_cons_of_mem _ h)
theorem CX.k {p : Program} {R : Room} {s : State} {m : MethodId} {args : Array Value} {meth : Method} {c : Code} (C : CX K n d M Z p R s m args meth c) : va_K K.1 cl0 (tys K) s := C.2.2.2.2.2.2.2.1.1
theorem CX.ks {p : Program} {R : Room} {s : State} {m : MethodId} {args : Array Value} {meth : Method} {c : Code} (C : CX K n d M Z p R s m args meth c) : KS K s := C.2.2.2.2.2.2.2.1.2
theorem CX.nn {p : Program} {R : Room} {s : State} {m : MethodId} {args : Array Value} {meth : Method} {c : Code} (C : CX K n d M Z p R s m args meth c) : 270 ≤ n := C.2.2.2.2.2.2.2.2.2
theorem wl_ob {a c : Nat} {σ : MM} (hn : 270 ≤ n) (h : ob a c) (hc : c < 100) : (wl K n σ)[a]? = some (K.2.1 + a, .inr (c, (List.range (nfd c)).map (fv K σ c a))) := by
  rw [wl_at (Nat.lt_of_lt_of_le h.1 hn), ce_ob h hc]
theorem wl_ar {a t m : Nat} {σ : MM} (hn : 270 ≤ n) (h : ar a t m) : (wl K n σ)[a]? = some (K.2.1 + a, ca K σ a t m) := by
  rw [wl_at (Nat.lt_of_lt_of_le h.1 hn), ce_ar h]
theorem fst_at {α : Type} {f : Nat → α} {N k : Nat} (h : k < N) : ((List.range N).map f)[k]? = some (f k) := by simp [h]
/-- getfield, whatever the field holds -/
theorem rw_get {t : PP ρ} {idx cl j a : Nat} {v : MM → Value} (hi : FI M.1 idx cl j) (h : ob a cl) (hc : cl < 100) (hv : ∀ σ, fv K σ cl a j = v σ) (hd : decode M.2.2.1 pc = .ok (.getfield idx, 3)) {σ : MM} {Q : Option Value → MM → Prop} (k : RW l K n d M Z (pc + 3) lv (v σ :: st) σ Q) : RW l K n d M Z pc lv (.ref (K.2.1 + a) :: st) σ Q := by
  intro p e R s m args below meth c C H locs ls hP hS hl
  obtain ⟨Cn, T, N, ty, h1, h2, h3, h4, h5, h6, h7, h8⟩ := hi
  subst h3
  refine va_get (D := K.1) (ci := cl) (C := Cn) (T := T) (N := nfd cl) (ref := Cn) C.1 C.2.1 (fun w q => C.w q) h6 C.own C.k hP a (wl_ob C.nn h hc) h1 j h2 (C.w h4) (fun x q => by rw [h5] at q; exact q) (fst_at h2) hd ?_
  rw [hv σ]
  exact k p e R s m args below meth c C H locs ls hP hS hl
theorem fv0 {σ : MM} {c a j : Nat} (h : fty c j = 0) : fv K σ c a j = .int (σ.1 a j) := by unfold fv; rw [h]; rfl
theorem fv1 {σ : MM} {c a j : Nat} (h : fty c j = 1) : fv K σ c a j = .long (σ.2.1 a j) := by unfold fv; rw [h]; rfl
theorem fv2 {σ : MM} {c a j : Nat} (h : fty c j = 2) : fv K σ c a j = .ref (K.2.1 + rf a j) := by unfold fv; rw [h]; rfl
theorem fv3 {σ : MM} {c a j : Nat} (h : fty c j = 3) : fv K σ c a j = wr K σ.2.2 := by unfold fv; rw [h]; rfl
theorem rp_getI {α : Type} {f : Int32 → PP α} {k : α → PP ρ} {idx cl j a : Nat} (hi : FI M.1 idx cl j) (h : ob a cl) (hc : (decide (cl < 100) && decide (fty cl j = 0)) = true) (hd : decode M.2.2.1 pc = .ok (.getfield idx, 3)) (kk : ∀ x, RP l K n d M Z (pc + 3) lv (.int x :: st) en (bd (f x) k)) : RP l K n d M Z pc lv (.ref (K.2.1 + a) :: st) en (bd (bd (gI a j) f) k) := by
  simp only [Bool.and_eq_true, decide_eq_true_eq] at hc
  intro σ r σ' q
  exact rw_get (t := bd (bd (gI a j) f) k) (v := fun σ => .int (σ.1 a j)) hi h hc.1 (fun σ => fv0 hc.2) hd (kk _ σ r σ' q)
theorem rp_getL {α : Type} {f : Int64 → PP α} {k : α → PP ρ} {idx cl j a : Nat} (hi : FI M.1 idx cl j) (h : ob a cl) (hc : (decide (cl < 100) && decide (fty cl j = 1)) = true) (hd : decode M.2.2.1 pc = .ok (.getfield idx, 3)) (kk : ∀ x, RP l K n d M Z (pc + 3) lv (.long x :: st) en (bd (f x) k)) : RP l K n d M Z pc lv (.ref (K.2.1 + a) :: st) en (bd (bd (gL a j) f) k) := by
  simp only [Bool.and_eq_true, decide_eq_true_eq] at hc
  intro σ r σ' q
  exact rw_get (t := bd (bd (gL a j) f) k) (v := fun σ => .long (σ.2.1 a j)) hi h hc.1 (fun σ => fv1 hc.2) hd (kk _ σ r σ' q)
theorem rp_getW {α : Type} {f : Option (Fin 23) → PP α} {k : α → PP ρ} {idx cl j a : Nat} (hi : FI M.1 idx cl j) (h : ob a cl) (hc : (decide (cl < 100) && decide (fty cl j = 3)) = true) (hd : decode M.2.2.1 pc = .ok (.getfield idx, 3)) (kk : ∀ x, RP l K n d M Z (pc + 3) lv (wr K x :: st) en (bd (f x) k)) : RP l K n d M Z pc lv (.ref (K.2.1 + a) :: st) en (bd (bd gW f) k) := by
  simp only [Bool.and_eq_true, decide_eq_true_eq] at hc
  intro σ r σ' q
  exact rw_get (t := bd (bd gW f) k) (v := fun σ => wr K σ.2.2) hi h hc.1 (fun σ => fv3 hc.2) hd (kk _ σ r σ' q)
theorem rp_getR {t : PP ρ} {idx cl j a : Nat} (hi : FI M.1 idx cl j) (h : ob a cl) (hc : (decide (cl < 100) && decide (fty cl j = 2)) = true) (hd : decode M.2.2.1 pc = .ok (.getfield idx, 3)) (kk : RP l K n d M Z (pc + 3) lv (.ref (K.2.1 + rf a j) :: st) en t) : RP l K n d M Z pc lv (.ref (K.2.1 + a) :: st) en t := by
  simp only [Bool.and_eq_true, decide_eq_true_eq] at hc
  intro σ r σ' q
  exact rw_get (t := t) (v := fun σ => .ref (K.2.1 + rf a j)) hi h hc.1 (fun σ => fv2 hc.2) hd (kk σ r σ' q)
/-- putfield, whatever it is -/
theorem rw_put {idx cl j a : Nat} {v : Value} {ty : FieldType} {σ σ2 : MM} (hi : FI M.1 idx cl j) (hp : FP cl j ty) (h : ob a cl) (hc : cl < 100) (hn : narrow ty v = v) (hf : fits ty v = true) (hw : ∀ b, b < n → b ≠ a → ce K σ2 b = ce K σ b) (hv : fv K σ2 cl a j = v) (ho : ∀ i, i < nfd cl → i ≠ j → fv K σ2 cl a i = fv K σ cl a i) (hd : decode M.2.2.1 pc = .ok (.putfield idx, 3)) {Q : Option Value → MM → Prop} (k : RW l K n d M Z (pc + 3) lv st σ2 Q) : RW l K n d M Z pc lv (v :: .ref (K.2.1 + a) :: st) σ Q := by
  intro p e R s m args below meth c C H locs ls hP hS hl
  obtain ⟨Cn, T, N, ty0, h1, h2, h3, h4, h5, h6, h7, h8⟩ := hi
  subst h3
  obtain ⟨g1, g2⟩ := hp Cn T (nfd cl) h1
  have han : a < n := Nat.lt_of_lt_of_le h.1 C.nn
  refine va_put (D := K.1) (ci := cl) (C := Cn) (T := T) (N := nfd cl) (ref := Cn) C.1 C.2.1 (fun w q => C.w q) h6 ty0 h7 h8 C.own C.k hP (wl_D K n σ) hS a (wl_ob C.nn h hc) h1 j h2 (C.w h4) (fun x q => by rw [h5] at q; exact q) g2 g1 hn hf (by simp [h2]) hd (fun H1 locs1 hP1 hD1 hS1 => ?_)
  rw [fst_set h2 hv ho, wl_set han (ce_ob h hc) hw] at hP1
  exact k p e R s m args below meth c C H1 locs1 ls hP1 hS1 hl
theorem fv_upI {σ : MM} {c a i j : Nat} {x : Int32} (h : i ≠ j) : fv K (up2 σ.1 a j x, σ.2) c a i = fv K σ c a i := by
  unfold fv
  have : up2 σ.1 a j x a i = σ.1 a i := by simp [up2, h]
  simp only [this]
theorem fv_upL {σ : MM} {c a i j : Nat} {x : Int64} (h : i ≠ j) : fv K (σ.1, up2 σ.2.1 a j x, σ.2.2) c a i = fv K σ c a i := by
  unfold fv
  have : up2 σ.2.1 a j x a i = σ.2.1 a i := by simp [up2, h]
  simp only [this]
theorem rp_putI {α : Type} {f : Unit → PP α} {k : α → PP ρ} {idx cl j a : Nat} {x : Int32} (hi : FI M.1 idx cl j) (hp : FP cl j .int) (h : ob a cl) (hc : (decide (cl < 100) && decide (fty cl j = 0)) = true) (hd : decode M.2.2.1 pc = .ok (.putfield idx, 3)) (kk : RP l K n d M Z (pc + 3) lv st en (bd (f ()) k)) : RP l K n d M Z pc lv (.int x :: .ref (K.2.1 + a) :: st) en (bd (bd (sI a j x) f) k) := by
  simp only [Bool.and_eq_true, decide_eq_true_eq] at hc
  intro σ r σ' q
  exact rw_put hi hp h hc.1 rfl rfl (fun b _ hb => ce_oI hb) (by rw [fv0 hc.2]; simp [up2]) (fun i _ hij => fv_upI hij) hd (kk _ r σ' q)
theorem rp_putZ {α : Type} {f : Unit → PP α} {k : α → PP ρ} {idx cl j a : Nat} {x : Int32} (hx : x = 0 ∨ x = 1) (hi : FI M.1 idx cl j) (hp : FP cl j .boolean) (h : ob a cl) (hc : (decide (cl < 100) && decide (fty cl j = 0)) = true) (hd : decode M.2.2.1 pc = .ok (.putfield idx, 3)) (kk : RP l K n d M Z (pc + 3) lv st en (bd (f ()) k)) : RP l K n d M Z pc lv (.int x :: .ref (K.2.1 + a) :: st) en (bd (bd (sI a j x) f) k) := by
  simp only [Bool.and_eq_true, decide_eq_true_eq] at hc
  intro σ r σ' q
  exact rw_put hi hp h hc.1 (by rcases hx with rfl | rfl <;> rfl) (by rcases hx with rfl | rfl <;> rfl) (fun b _ hb => ce_oI hb) (by rw [fv0 hc.2]; simp [up2]) (fun i _ hij => fv_upI hij) hd (kk _ r σ' q)
theorem rp_putL {α : Type} {f : Unit → PP α} {k : α → PP ρ} {idx cl j a : Nat} {x : Int64} (hi : FI M.1 idx cl j) (hp : FP cl j .long) (h : ob a cl) (hc : (decide (cl < 100) && decide (fty cl j = 1)) = true) (hd : decode M.2.2.1 pc = .ok (.putfield idx, 3)) (kk : RP l K n d M Z (pc + 3) lv st en (bd (f ()) k)) : RP l K n d M Z pc lv (.long x :: .ref (K.2.1 + a) :: st) en (bd (bd (sL a j x) f) k) := by
  simp only [Bool.and_eq_true, decide_eq_true_eq] at hc
  intro σ r σ' q
  exact rw_put hi hp h hc.1 rfl rfl (fun b _ hb => ce_oL hb) (by rw [fv1 hc.2]; simp [up2]) (fun i _ hij => fv_upL hij) hd (kk _ r σ' q)
/-! ===== arrays ===== -/
theorem rp_iald {α : Type} {f : Int32 → PP α} {k : α → PP ρ} {a m : Nat} {i : Int32} (h : ar a 0 m) (hd : decode M.2.2.1 pc = .ok (.iaload, 1)) (kk : ∀ x, RP l K n d M Z (pc + 1) lv (.int x :: st) en (bd (f x) k)) : RP l K n d M Z pc lv (.int i :: .ref (K.2.1 + a) :: st) en (bd (bd (aI a m i) f) k) := by
  intro σ r σ' q p e R s me args below meth c C H locs ls hP hS hl
  by_cases hb : ib i m = true
  · have q2 : bd (f (σ.1 a i.toNatClampNeg)) k σ = some (r, σ') := by simpa [bd, aI, hb] using q
    exact va_iald C.1 C.2.1 C.k hP a 0 (wl_ar C.nn h) rfl (ib_in hb) hd (kk _ σ r σ' q2 p e R s me args below meth c C H locs ls hP hS hl)
  · simp [bd, aI, hb] at q
theorem rp_cald {α : Type} {f : Int32 → PP α} {k : α → PP ρ} {a m : Nat} {i : Int32} (h : ar a 2 m) (hd : decode M.2.2.1 pc = .ok (.caload, 1)) (kk : ∀ x, RP l K n d M Z (pc + 1) lv (.int x :: st) en (bd (f x) k)) : RP l K n d M Z pc lv (.int i :: .ref (K.2.1 + a) :: st) en (bd (bd (aI a m i) f) k) := by
  intro σ r σ' q p e R s me args below meth c C H locs ls hP hS hl
  by_cases hb : ib i m = true
  · have q2 : bd (f (σ.1 a i.toNatClampNeg)) k σ = some (r, σ') := by simpa [bd, aI, hb] using q
    exact va_cald C.1 C.2.1 C.k hP a 2 (wl_ar C.nn h) rfl (ib_in hb) hd (kk _ σ r σ' q2 p e R s me args below meth c C H locs ls hP hS hl)
  · simp [bd, aI, hb] at q
theorem rp_zald {α : Type} {f : Int32 → PP α} {k : α → PP ρ} {a m : Nat} {i : Int32} (h : ar a 3 m) (hd : decode M.2.2.1 pc = .ok (.baload, 1)) (kk : ∀ x, RP l K n d M Z (pc + 1) lv (.int x :: st) en (bd (f x) k)) : RP l K n d M Z pc lv (.int i :: .ref (K.2.1 + a) :: st) en (bd (bd (aI a m i) f) k) := by
  intro σ r σ' q p e R s me args below meth c C H locs ls hP hS hl
  by_cases hb : ib i m = true
  · have q2 : bd (f (σ.1 a i.toNatClampNeg)) k σ = some (r, σ') := by simpa [bd, aI, hb] using q
    exact va_zald C.1 C.2.1 C.k hP a 3 (wl_ar C.nn h) rfl (ib_in hb) hd (kk _ σ r σ' q2 p e R s me args below meth c C H locs ls hP hS hl)
  · simp [bd, aI, hb] at q
theorem rp_lald {α : Type} {f : Int64 → PP α} {k : α → PP ρ} {a m : Nat} {i : Int32} (h : ar a 1 m) (hd : decode M.2.2.1 pc = .ok (.laload, 1)) (kk : ∀ x, RP l K n d M Z (pc + 1) lv (.long x :: st) en (bd (f x) k)) : RP l K n d M Z pc lv (.int i :: .ref (K.2.1 + a) :: st) en (bd (bd (aL a m i) f) k) := by
  intro σ r σ' q p e R s me args below meth c C H locs ls hP hS hl
  by_cases hb : ib i m = true
  · have q2 : bd (f (σ.2.1 a i.toNatClampNeg)) k σ = some (r, σ') := by simpa [bd, aL, hb] using q
    exact va_lald C.1 C.2.1 C.k hP a 1 (wl_ar C.nn h) rfl (ib_in hb) hd (kk _ σ r σ' q2 p e R s me args below meth c C H locs ls hP hS hl)
  · simp [bd, aL, hb] at q
theorem up2_row {β : Type} {f : Nat → Nat → β} {a k : Nat} {x : β} : (fun j => up2 f a k x a j) = (fun j => if j = k then x else f a j) := by funext j; simp [up2]
theorem rp_iast {α : Type} {f : Unit → PP α} {k : α → PP ρ} {a m : Nat} {i x : Int32} (h : ar a 0 m) (hd : decode M.2.2.1 pc = .ok (.iastore, 1)) (kk : RP l K n d M Z (pc + 1) lv st en (bd (f ()) k)) : RP l K n d M Z pc lv (.int x :: .int i :: .ref (K.2.1 + a) :: st) en (bd (bd (uI a m i x) f) k) := by
  intro σ r σ' q p e R s me args below meth c C H locs ls hP hS hl
  have han : a < n := Nat.lt_of_lt_of_le h.1 C.nn
  by_cases hb : ib i m = true
  · have q2 : bd (f ()) k (up2 σ.1 a i.toNatClampNeg x, σ.2) = some (r, σ') := by simpa [bd, uI, hb] using q
    refine va_iast C.1 C.2.1 C.k hP (wl_D K n σ) hS a 0 (wl_ar C.nn h) rfl (ib_in hb) hd (fun H1 locs1 hP1 hD1 hS1 => ?_)
    rw [wl_set (σ' := (up2 σ.1 a i.toNatClampNeg x, σ.2)) han (by rw [ce_ar h]; unfold ca; simp only [up2_row]; rfl) (fun b _ hb2 => ce_oI hb2)] at hP1
    exact kk _ r σ' q2 p e R s me args below meth c C H1 locs1 ls hP1 hS1 hl
  · simp [bd, uI, hb] at q
/-- char, boolean: what is stored is cut first; here it must be so already -/
theorem rp_cast {α : Type} {f : Unit → PP α} {k : α → PP ρ} {a m : Nat} {i x : Int32} (h : ar a 2 m) (hx : vp_nar .char x = x) (hd : decode M.2.2.1 pc = .ok (.castore, 1)) (kk : RP l K n d M Z (pc + 1) lv st en (bd (f ()) k)) : RP l K n d M Z pc lv (.int x :: .int i :: .ref (K.2.1 + a) :: st) en (bd (bd (uI a m i x) f) k) := by
  intro σ r σ' q p e R s me args below meth c C H locs ls hP hS hl
  have han : a < n := Nat.lt_of_lt_of_le h.1 C.nn
  by_cases hb : ib i m = true
  · have q2 : bd (f ()) k (up2 σ.1 a i.toNatClampNeg x, σ.2) = some (r, σ') := by simpa [bd, uI, hb] using q
    refine va_cast C.1 C.2.1 C.k hP (wl_D K n σ) hS a 2 (wl_ar C.nn h) rfl (ib_in hb) hd (fun H1 locs1 hP1 hD1 hS1 => ?_)
    rw [hx, wl_set (σ' := (up2 σ.1 a i.toNatClampNeg x, σ.2)) han (by rw [ce_ar h]; unfold ca; simp only [up2_row]; rfl) (fun b _ hb2 => ce_oI hb2)] at hP1
    exact kk _ r σ' q2 p e R s me args below meth c C H1 locs1 ls hP1 hS1 hl
  · simp [bd, uI, hb] at q
theorem rp_zast {α : Type} {f : Unit → PP α} {k : α → PP ρ} {a m : Nat} {i x : Int32} (h : ar a 3 m) (hx : vp_nar .boolean x = x) (hd : decode M.2.2.1 pc = .ok (.bastore, 1)) (kk : RP l K n d M Z (pc + 1) lv st en (bd (f ()) k)) : RP l K n d M Z pc lv (.int x :: .int i :: .ref (K.2.1 + a) :: st) en (bd (bd (uI a m i x) f) k) := by
  intro σ r σ' q p e R s me args below meth c C H locs ls hP hS hl
  have han : a < n := Nat.lt_of_lt_of_le h.1 C.nn
  by_cases hb : ib i m = true
  · have q2 : bd (f ()) k (up2 σ.1 a i.toNatClampNeg x, σ.2) = some (r, σ') := by simpa [bd, uI, hb] using q
    refine va_zast C.1 C.2.1 C.k hP (wl_D K n σ) hS a 3 (wl_ar C.nn h) rfl (ib_in hb) hd (fun H1 locs1 hP1 hD1 hS1 => ?_)
    rw [hx, wl_set (σ' := (up2 σ.1 a i.toNatClampNeg x, σ.2)) han (by rw [ce_ar h]; unfold ca; simp only [up2_row]; rfl) (fun b _ hb2 => ce_oI hb2)] at hP1
    exact kk _ r σ' q2 p e R s me args below meth c C H1 locs1 ls hP1 hS1 hl
  · simp [bd, uI, hb] at q
theorem rp_last {α : Type} {f : Unit → PP α} {k : α → PP ρ} {a m : Nat} {i : Int32} {x : Int64} (h : ar a 1 m) (hd : decode M.2.2.1 pc = .ok (.lastore, 1)) (kk : RP l K n d M Z (pc + 1) lv st en (bd (f ()) k)) : RP l K n d M Z pc lv (.long x :: .int i :: .ref (K.2.1 + a) :: st) en (bd (bd (uL a m i x) f) k) := by
  intro σ r σ' q p e R s me args below meth c C H locs ls hP hS hl
  have han : a < n := Nat.lt_of_lt_of_le h.1 C.nn
  by_cases hb : ib i m = true
  · have q2 : bd (f ()) k (σ.1, up2 σ.2.1 a i.toNatClampNeg x, σ.2.2) = some (r, σ') := by simpa [bd, uL, hb] using q
    refine va_last C.1 C.2.1 C.k hP (wl_D K n σ) hS a 1 (wl_ar C.nn h) rfl (ib_in hb) hd (fun H1 locs1 hP1 hD1 hS1 => ?_)
    rw [wl_set (σ' := (σ.1, up2 σ.2.1 a i.toNatClampNeg x, σ.2.2)) han (by rw [ce_ar h]; unfold ca; simp only [up2_row]; rfl) (fun b _ hb2 => ce_oL hb2)] at hP1
    exact kk _ r σ' q2 p e R s me args below meth c C H1 locs1 ls hP1 hS1 hl
  · simp [bd, uL, hb] at q
theorem rp_alen {t : PP ρ} {a u m : Nat} {v : Int32} (h : ar a u m) (hu : (decide (u < 6)) = true) (hv : Int32.ofNat m = v) (hd : decode M.2.2.1 pc = .ok (.arraylength, 1)) (kk : RP l K n d M Z (pc + 1) lv (.int v :: st) en t) : RP l K n d M Z pc lv (.ref (K.2.1 + a) :: st) en t := by
  intro σ r σ' q p e R s me args below meth c C H locs ls hP hS hl
  have hk := kk σ r σ' q p e R s me args below meth c C H locs ls hP hS hl
  simp only [decide_eq_true_eq] at hu
  have ha := wl_ar (K := K) (σ := σ) C.nn h
  rcases (show u = 0 ∨ u = 1 ∨ u = 2 ∨ u = 3 ∨ u = 4 ∨ u = 5 by omega) with rfl | rfl | rfl | rfl | rfl | rfl
  · exact va_alen C.1 C.2.1 C.k hP a 0 ha (ty := .int) rfl hv hd hk
  · exact va_alen C.1 C.2.1 C.k hP a 1 ha (ty := .long) rfl hv hd hk
  · exact va_alen C.1 C.2.1 C.k hP a 2 ha (ty := .char) rfl hv hd hk
  · exact va_alen C.1 C.2.1 C.k hP a 3 ha (ty := .boolean) rfl hv hd hk
  · exact va_alen C.1 C.2.1 C.k hP a 4 ha (ty := .object RX4) rfl hv hd hk
  · exact va_alen C.1 C.2.1 C.k hP a 5 ha (ty := .object RX1) rfl hv hd hk
/-- an array of references: the place must be in range; the cell is told by the table -/
theorem rp_aald {α : Type} {f : Unit → PP α} {k : α → PP ρ} {a u m : Nat} {i : Int32} (h : ar a u m) (hu : u = 4 ∨ u = 5) (hd : decode M.2.2.1 pc = .ok (.aaload, 1)) (kk : ib i m = true → RP l K n d M Z (pc + 1) lv (.ref (K.2.1 + rf a i.toNatClampNeg) :: st) en (bd (f ()) k)) : RP l K n d M Z pc lv (.int i :: .ref (K.2.1 + a) :: st) en (bd (bd (gd (ib i m = true)) f) k) := by
  intro σ r σ' q p e R s me args below meth c C H locs ls hP hS hl
  by_cases hb : ib i m = true
  · have q2 : bd (f ()) k σ = some (r, σ') := by simpa [bd, gd, hb] using q
    have hk := kk hb σ r σ' q2 p e R s me args below meth c C H locs ls hP hS hl
    rcases hu with rfl | rfl
    · exact va_aldq C.1 C.2.1 C.k hP a 4 (wl_ar C.nn h) rfl (ib_in hb) hd hk
    · exact va_aldq C.1 C.2.1 C.k hP a 5 (wl_ar C.nn h) rfl (ib_in hb) hd hk
  · simp [bd, gd, hb] at q
/-! ===== calls ===== -/
theorem good_tbl : lg.all goodWord = true := by
  rw [List.all_eq_true]
  intro w h
  exact (List.mem_filter.mp h).2
theorem good_mws {M M' : MI} (hc : Cond.code M'.2.1 M'.2.2.1 M'.2.2.2.1 M'.2.2.2.2 ∈ lg) : GoodIn (mws M) (mws M') := by
  intro w hw
  rcases List.mem_cons.mp hw with rfl | h
  · exact ⟨List.mem_cons_of_mem _ hc, good_of_word (List.all_eq_true.mp good_tbl _ hc)⟩
  · exact ⟨List.mem_cons_of_mem _ h, good_of_word (List.all_eq_true.mp good_tbl _ h)⟩
/-- what a call of a method needs of the tables -/
def CC (M' : MI) (ps : Nat) : Prop := Cond.code M'.2.1 M'.2.2.1 M'.2.2.2.1 M'.2.2.2.2 ∈ lg ∧ Cond.initialized M'.2.1.cls ∈ lg ∧ (M'.2.1.cls ≠ "java/lang/invoke/MethodHandle" ∧ M'.2.1.cls ≠ "java/lang/invoke/VarHandle" ∧ (parseMethodDescriptor M'.2.1.desc).map (fun d => d.parameters.length) = some ps) ∧ M'.2.2.2.1 ≤ 13
def CV (M' : MI) (ps : Nat) : Prop := CC M' ps ∧ Cond.instanceMethod M'.2.1 ∈ lg ∧ Cond.selects M'.2.1.cls M'.2.1 M'.2.1 ∈ lg
def CS (M' : MI) (ps : Nat) : Prop := CC M' ps ∧ Cond.static M'.2.1 ∈ lg
theorem CC.b {M' : MI} {ps idx d' : Nat} {p : Program} {R : Room} {s : State} {m : MethodId} {args : Array Value} {meth : Method} {c : Code} (h : CC M' ps) (C : CX K n d M Z p R s m args meth c) (hl : Cond.methodLink M.1 idx M'.2.1 ∈ lg) (hdd : d' + 1 ≤ d) : CallB R s args M.1 idx M'.2.1 M'.2.2.1 M'.2.2.2.1 M'.2.2.2.2 (mws M') (rmd d') 0 0 ps := by
  have hR := C.2.2.2.2.2.2.2.2.1
  exact callB_of (ws' := lg) ps C.2.2.2.2.2.1 (good_mws h.1) rfl rfl rfl (C.w h.2.1) (C.w hl) h.2.2.1 ⟨Nat.le_trans hdd hR.1, by have := h.2.2.2; have := hR.2.1; show 8 + (M'.2.2.2.1 + 11) + 32 * d' ≤ R.locals; omega⟩
theorem rw_back {M' : MI} {ps idx d' : Nat} {p : Program} {e : Env} {R : Room} {s : State} {m : MethodId} {args : Array Value} {below : List Frame} {meth : Method} {c : Code} {H : Heap} {locs : List Loc} {ls : Array Slot} {stk : List Value} {av : List Value} {Q' : Option Value → MM → Prop} {Q : Option Value → MM → Prop} (hr : va_Run p l e R s m args below meth c H locs Z.1 Z.2.1 0 0 (F0 m pc ls stk) st (QC K n Q' av.toArray) (AA K)) (C : CX K n d M Z p R s m args meth c) (hS : va_S (AA K) s.heap H locs) (hl : lv_has ls M.2.2.2.1 lv) (k : ∀ v σ', Q' v σ' → RW l K n d M Z (pc + 3) lv (v.toList ++ st) σ' Q) : W p l e R s m args below meth c H locs Z.1 Z.2.1 (Z.2.2 R below args s Q) (F0 m pc ls stk) := by
  intro T hT X
  obtain ⟨v, st₀, t, T', L, h0, X', hL, e1, e2, ⟨⟨v2, σ', hv, hq, hP'⟩, hz, hk⟩, stp⟩ := hr T hT X
  cases hv
  rw [h0] at hz hk
  have hS' : va_S (AA K) s.heap T'.heap (locs ++ L) := ⟨Nat.le_trans hS.1 (by rw [e1]; exact hz), fun q h1 h2 => by rw [e1, hk q (Nat.lt_of_lt_of_le h1 hS.1) h2]; exact hS.2.1 q h1 h2, fun q hq => by
    rcases List.mem_append.mp hq with h | h
    · exact hS.2.2 q h
    · exact hL q h⟩
  obtain ⟨t2, a1, b1⟩ := k v σ' hq p e R s m args below meth c C T'.heap (locs ++ L) ls (by rw [e1]; exact hP') hS' hl T' rfl X'
  exact ⟨t2, stp t2 a1, b1⟩
theorem ct_blind {av : List Value} {σ : MM} : FrameBlind (va_Pc av (fun U => KU K U ∧ va_P K.1 cl0 (wl K n σ) U.heap)) := by
  intro a U g mk q
  exact ⟨q.1, q.2.1.calling, q.2.2⟩
theorem rw_callV {α : Type} {M' : MI} {ps idx d' b cl : Nat} {As stk : List Value} {en' : α → Option Value} {f : PP α} {σ σ1 : MM} {r : α} (hM : CT l K n d' M' (.ref (K.2.1 + b) :: As) en' f) (hv : CV M' ps) (hl : Cond.methodLink M.1 idx M'.2.1 ∈ lg) (hdd : d' + 1 ≤ d) (hob : ob b cl) (hcl : cl < 100) (hcn : (cl0[cl]?).map (fun q => q.1) = some M'.2.1.cls) (hn : As.length = ps) (hst : stk = As.reverse ++ .ref (K.2.1 + b) :: st) (hW : (st.map fun v => v.category).sum ≤ 8) (hd : decode M.2.2.1 pc = .ok (.invokevirtual idx, 3)) (q : f σ = some (r, σ1)) {Q : Option Value → MM → Prop} (k : RW l K n d M Z (pc + 3) lv ((en' r).toList ++ st) σ1 Q) : RW l K n d M Z pc lv stk σ Q := by
  subst hst
  intro p e R s m args below meth c C H locs ls hP hS hl2
  obtain ⟨cq, hc1, hc2⟩ : ∃ q, cl0[cl]? = some q ∧ q.1 = M'.2.1.cls := by
    cases h : cl0[cl]? with
    | none => rw [h] at hcn; cases hcn
    | some q => rw [h] at hcn; exact ⟨q, rfl, Option.some.inj hcn⟩
  have hrecv := va_recv C.k hP hc1 (wl_ob C.nn hob hcl)
  rw [hc2] at hrecv
  refine rw_back (av := .ref (K.2.1 + b) :: As) (M' := M') (ps := ps) (idx := idx) (d' := d') (va_runV (As := As) (rest := st) (nL := M.2.2.2.1) (Ts := mws M) (own := M.1) (C := M'.2.1.cls) ⟨C.1, C.2.1, C.2.2.2.1, C.own, C.2.2.2.2.2.1⟩ (hM σ r σ1 q) ⟨hv.1.b C hl hdd, C.w hv.2.1, C.w hv.2.2⟩ ⟨ct_blind, hrecv, fun U hU hW2 => ⟨rfl, C.2.2.2.2.2.2.2.1.mv hS hU hW2, by rw [hU]; exact hP⟩⟩ rfl hn hl2.1 rfl (lv_room hW) hd ⟨C.2.2.2.2.2.2.2.2.1.2.2.1, C.2.2.2.2.2.2.2.2.1.2.2.2⟩) C hS hl2 ?_
  rintro v σ' ⟨rfl, rfl⟩
  exact k
theorem rw_callS {α : Type} {M' : MI} {ps idx d' : Nat} {As stk : List Value} {en' : α → Option Value} {f : PP α} {σ σ1 : MM} {r : α} (hM : CT l K n d' M' As en' f) (hv : CS M' ps) (hl : Cond.methodLink M.1 idx M'.2.1 ∈ lg) (hdd : d' + 1 ≤ d) (hn : As.length = ps) (hst : stk = As.reverse ++ st) (hW : (st.map fun v => v.category).sum ≤ 8) (hd : decode M.2.2.1 pc = .ok (.invokestatic idx, 3)) (q : f σ = some (r, σ1)) {Q : Option Value → MM → Prop} (k : RW l K n d M Z (pc + 3) lv ((en' r).toList ++ st) σ1 Q) : RW l K n d M Z pc lv stk σ Q := by
  subst hst
  intro p e R s m args below meth c C H locs ls hP hS hl2
  refine rw_back (av := As) (M' := M') (ps := ps) (idx := idx) (d' := d') (va_runS (As := As) (rest := st) (nL := M.2.2.2.1) (Ts := mws M) (own := M.1) ⟨C.1, C.2.1, C.2.2.2.1, C.own, C.2.2.2.2.2.1⟩ (hM σ r σ1 q) ⟨hv.1.b C hl hdd, C.w hv.2⟩ ⟨ct_blind, fun U hU hW2 => ⟨rfl, C.2.2.2.2.2.2.2.1.mv hS hU hW2, by rw [hU]; exact hP⟩⟩ rfl hn hl2.1 rfl (lv_room hW) hd ⟨C.2.2.2.2.2.2.2.2.1.2.2.1, C.2.2.2.2.2.2.2.2.1.2.2.2⟩) C hS hl2 ?_
  rintro v σ' ⟨rfl, rfl⟩
  exact k
theorem bd_some {α β : Type} {c : PP α} {k : α → PP β} {σ : MM} {x : β × MM} (h : bd c k σ = some x) : ∃ r σ1, c σ = some (r, σ1) ∧ k r σ1 = some x := by
  unfold bd at h
  cases hc : c σ with
  | none => rw [hc] at h; cases h
  | some q => rw [hc] at h; exact ⟨q.1, q.2, rfl, h⟩
theorem bd2_some {α β γ : Type} {c : PP α} {f : α → PP β} {k : β → PP γ} {σ : MM} {x : γ × MM} (h : bd (bd c f) k σ = some x) : ∃ r σ1, c σ = some (r, σ1) ∧ bd (f r) k σ1 = some x := by
  rw [bd_as] at h
  exact bd_some h
theorem rp_callVi {α : Type} {g : Int32 → PP α} {k : α → PP ρ} {M' : MI} {ps idx d' b cl : Nat} {stk : List Value} {f : PP Int32} (As : List Value) (hM : CT l K n d' M' (.ref (K.2.1 + b) :: As) enI f) (hv : CV M' ps) (hl : Cond.methodLink M.1 idx M'.2.1 ∈ lg) (hdd : d' + 1 ≤ d) (hob : ob b cl) (hcl : cl < 100) (hcn : (cl0[cl]?).map (fun q => q.1) = some M'.2.1.cls) (hn : As.length = ps) (hst : stk = As.reverse ++ .ref (K.2.1 + b) :: st) (hW : (st.map fun v => v.category).sum ≤ 8) (hd : decode M.2.2.1 pc = .ok (.invokevirtual idx, 3)) (kk : ∀ x, RP l K n d M Z (pc + 3) lv (.int x :: st) en (bd (g x) k)) : RP l K n d M Z pc lv stk en (bd (bd f g) k) := by
  intro σ r σ' q
  obtain ⟨x, σ1, q1, q2⟩ := bd2_some q
  exact rw_callV hM hv hl hdd hob hcl hcn hn hst hW hd q1 (kk x σ1 r σ' q2)
theorem rp_callSi {α : Type} {g : Int32 → PP α} {k : α → PP ρ} {M' : MI} {ps idx d' : Nat} {stk : List Value} {f : PP Int32} (As : List Value) (hM : CT l K n d' M' As enI f) (hv : CS M' ps) (hl : Cond.methodLink M.1 idx M'.2.1 ∈ lg) (hdd : d' + 1 ≤ d) (hn : As.length = ps) (hst : stk = As.reverse ++ st) (hW : (st.map fun v => v.category).sum ≤ 8) (hd : decode M.2.2.1 pc = .ok (.invokestatic idx, 3)) (kk : ∀ x, RP l K n d M Z (pc + 3) lv (.int x :: st) en (bd (g x) k)) : RP l K n d M Z pc lv stk en (bd (bd f g) k) := by
  intro σ r σ' q
  obtain ⟨x, σ1, q1, q2⟩ := bd2_some q
  exact rw_callS hM hv hl hdd hn hst hW hd q1 (kk x σ1 r σ' q2)
theorem rp_callVz {α : Type} {g : Bool → PP α} {k : α → PP ρ} {M' : MI} {ps idx d' b cl : Nat} {stk : List Value} {f : PP Bool} (As : List Value) (hM : CT l K n d' M' (.ref (K.2.1 + b) :: As) enZ f) (hv : CV M' ps) (hl : Cond.methodLink M.1 idx M'.2.1 ∈ lg) (hdd : d' + 1 ≤ d) (hob : ob b cl) (hcl : cl < 100) (hcn : (cl0[cl]?).map (fun q => q.1) = some M'.2.1.cls) (hn : As.length = ps) (hst : stk = As.reverse ++ .ref (K.2.1 + b) :: st) (hW : (st.map fun v => v.category).sum ≤ 8) (hd : decode M.2.2.1 pc = .ok (.invokevirtual idx, 3)) (kk : ∀ x, RP l K n d M Z (pc + 3) lv (.int (b2i x) :: st) en (bd (g x) k)) : RP l K n d M Z pc lv stk en (bd (bd f g) k) := by
  intro σ r σ' q
  obtain ⟨x, σ1, q1, q2⟩ := bd2_some q
  exact rw_callV hM hv hl hdd hob hcl hcn hn hst hW hd q1 (kk x σ1 r σ' q2)
theorem rp_callSz {α : Type} {g : Bool → PP α} {k : α → PP ρ} {M' : MI} {ps idx d' : Nat} {stk : List Value} {f : PP Bool} (As : List Value) (hM : CT l K n d' M' As enZ f) (hv : CS M' ps) (hl : Cond.methodLink M.1 idx M'.2.1 ∈ lg) (hdd : d' + 1 ≤ d) (hn : As.length = ps) (hst : stk = As.reverse ++ st) (hW : (st.map fun v => v.category).sum ≤ 8) (hd : decode M.2.2.1 pc = .ok (.invokestatic idx, 3)) (kk : ∀ x, RP l K n d M Z (pc + 3) lv (.int (b2i x) :: st) en (bd (g x) k)) : RP l K n d M Z pc lv stk en (bd (bd f g) k) := by
  intro σ r σ' q
  obtain ⟨x, σ1, q1, q2⟩ := bd2_some q
  exact rw_callS hM hv hl hdd hn hst hW hd q1 (kk x σ1 r σ' q2)
theorem rp_callVl {α : Type} {g : Int64 → PP α} {k : α → PP ρ} {M' : MI} {ps idx d' b cl : Nat} {stk : List Value} {f : PP Int64} (As : List Value) (hM : CT l K n d' M' (.ref (K.2.1 + b) :: As) enL f) (hv : CV M' ps) (hl : Cond.methodLink M.1 idx M'.2.1 ∈ lg) (hdd : d' + 1 ≤ d) (hob : ob b cl) (hcl : cl < 100) (hcn : (cl0[cl]?).map (fun q => q.1) = some M'.2.1.cls) (hn : As.length = ps) (hst : stk = As.reverse ++ .ref (K.2.1 + b) :: st) (hW : (st.map fun v => v.category).sum ≤ 8) (hd : decode M.2.2.1 pc = .ok (.invokevirtual idx, 3)) (kk : ∀ x, RP l K n d M Z (pc + 3) lv (.long x :: st) en (bd (g x) k)) : RP l K n d M Z pc lv stk en (bd (bd f g) k) := by
  intro σ r σ' q
  obtain ⟨x, σ1, q1, q2⟩ := bd2_some q
  exact rw_callV hM hv hl hdd hob hcl hcn hn hst hW hd q1 (kk x σ1 r σ' q2)
theorem rp_callSl {α : Type} {g : Int64 → PP α} {k : α → PP ρ} {M' : MI} {ps idx d' : Nat} {stk : List Value} {f : PP Int64} (As : List Value) (hM : CT l K n d' M' As enL f) (hv : CS M' ps) (hl : Cond.methodLink M.1 idx M'.2.1 ∈ lg) (hdd : d' + 1 ≤ d) (hn : As.length = ps) (hst : stk = As.reverse ++ st) (hW : (st.map fun v => v.category).sum ≤ 8) (hd : decode M.2.2.1 pc = .ok (.invokestatic idx, 3)) (kk : ∀ x, RP l K n d M Z (pc + 3) lv (.long x :: st) en (bd (g x) k)) : RP l K n d M Z pc lv stk en (bd (bd f g) k) := by
  intro σ r σ' q
  obtain ⟨x, σ1, q1, q2⟩ := bd2_some q
  exact rw_callS hM hv hl hdd hn hst hW hd q1 (kk x σ1 r σ' q2)
theorem rp_callVv {α : Type} {g : Unit → PP α} {k : α → PP ρ} {M' : MI} {ps idx d' b cl : Nat} {stk : List Value} {f : PP Unit} (As : List Value) (hM : CT l K n d' M' (.ref (K.2.1 + b) :: As) enU f) (hv : CV M' ps) (hl : Cond.methodLink M.1 idx M'.2.1 ∈ lg) (hdd : d' + 1 ≤ d) (hob : ob b cl) (hcl : cl < 100) (hcn : (cl0[cl]?).map (fun q => q.1) = some M'.2.1.cls) (hn : As.length = ps) (hst : stk = As.reverse ++ .ref (K.2.1 + b) :: st) (hW : (st.map fun v => v.category).sum ≤ 8) (hd : decode M.2.2.1 pc = .ok (.invokevirtual idx, 3)) (kk : ∀ x, RP l K n d M Z (pc + 3) lv (st) en (bd (g x) k)) : RP l K n d M Z pc lv stk en (bd (bd f g) k) := by
  intro σ r σ' q
  obtain ⟨x, σ1, q1, q2⟩ := bd2_some q
  exact rw_callV hM hv hl hdd hob hcl hcn hn hst hW hd q1 (kk x σ1 r σ' q2)
theorem rp_callSv {α : Type} {g : Unit → PP α} {k : α → PP ρ} {M' : MI} {ps idx d' : Nat} {stk : List Value} {f : PP Unit} (As : List Value) (hM : CT l K n d' M' As enU f) (hv : CS M' ps) (hl : Cond.methodLink M.1 idx M'.2.1 ∈ lg) (hdd : d' + 1 ≤ d) (hn : As.length = ps) (hst : stk = As.reverse ++ st) (hW : (st.map fun v => v.category).sum ≤ 8) (hd : decode M.2.2.1 pc = .ok (.invokestatic idx, 3)) (kk : ∀ x, RP l K n d M Z (pc + 3) lv (st) en (bd (g x) k)) : RP l K n d M Z pc lv stk en (bd (bd f g) k) := by
  intro σ r σ' q
  obtain ⟨x, σ1, q1, q2⟩ := bd2_some q
  exact rw_callS hM hv hl hdd hn hst hW hd q1 (kk x σ1 r σ' q2)
/-! ===== returns ===== -/
theorem rp_iret {x : Int32} (hr : M.2.2.2.2 = some .int) (hd : decode M.2.2.1 pc = .ok (.ireturn, 1)) : RP l K n d M (Z0 K n) pc lv [.int x] enI (pu x) := by
  intro σ r σ' q p e R s m args below meth c C H locs ls hP hS hl
  cases q
  exact W.iret (hlocks := C.2.2.2.2.2.2.1) C.1 C.2.1 (C.2.2.1.trans hr) (fun t ht hW => ⟨⟨_, _, rfl, ⟨rfl, rfl⟩, by rw [ht]; exact hP⟩, hS.F ht⟩) hS.2.2 hd
theorem rp_zret {x : Int32} (hr : M.2.2.2.2 = some .boolean) (hd : decode M.2.2.1 pc = .ok (.ireturn, 1)) : RP l K n d M (Z0 K n) pc lv [.int x] enZ (zb x) := by
  intro σ r σ' q p e R s m args below meth c C H locs ls hP hS hl
  unfold zb at q
  by_cases h0 : x = 0
  · subst h0
    cases q
    exact W.zret (hlocks := C.2.2.2.2.2.2.1) C.1 C.2.1 (C.2.2.1.trans hr) rfl (fun t ht hW => ⟨⟨_, _, rfl, ⟨rfl, rfl⟩, by rw [ht]; exact hP⟩, hS.F ht⟩) hS.2.2 hd
  · by_cases h1 : x = 1
    · subst h1
      cases q
      exact W.zret (hlocks := C.2.2.2.2.2.2.1) C.1 C.2.1 (C.2.2.1.trans hr) rfl (fun t ht hW => ⟨⟨_, _, rfl, ⟨rfl, rfl⟩, by rw [ht]; exact hP⟩, hS.F ht⟩) hS.2.2 hd
    · rw [if_neg h0, if_neg h1] at q
      cases q
theorem rp_lret {x : Int64} (hr : M.2.2.2.2 = some .long) (hd : decode M.2.2.1 pc = .ok (.lreturn, 1)) : RP l K n d M (Z0 K n) pc lv [.long x] enL (pu x) := by
  intro σ r σ' q p e R s m args below meth c C H locs ls hP hS hl
  cases q
  exact W.lret (hlocks := C.2.2.2.2.2.2.1) C.1 C.2.1 (C.2.2.1.trans hr) (fun t ht hW => ⟨⟨_, _, rfl, ⟨rfl, rfl⟩, by rw [ht]; exact hP⟩, hS.F ht⟩) hS.2.2 hd
theorem rp_vret {x : Unit} (hr : M.2.2.2.2 = none) (hd : decode M.2.2.1 pc = .ok (.return_, 1)) : RP l K n d M (Z0 K n) pc lv [] enU (pu x) := by
  intro σ r σ' q p e R s m args below meth c C H locs ls hP hS hl
  cases q
  exact W.vret (hlocks := C.2.2.2.2.2.2.1) C.1 C.2.1 (C.2.2.1.trans hr) (fun t ht hW => ⟨⟨_, _, rfl, ⟨rfl, rfl⟩, by rw [ht]; exact hP⟩, hS.F ht⟩) hS.2.2 hd
end RPH
