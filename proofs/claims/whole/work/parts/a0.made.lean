/-! ===== the world while it is being made ===== -/
abbrev TT : Type := Nat → Nat → Bool
def st2 (τ : TT) (a j : Nat) : TT := fun b i => (decide (b = a) && decide (i = j)) || τ b i
def fq (K : KK) (σ : MM) (τ : TT) (c a j : Nat) : Value := if fty c j = 2 ∧ τ a j = false then .null else fv K σ c a j
def rq (K : KK) (τ : TT) (a j : Nat) : Option Nat := if τ a j = true then some (K.2.1 + rf a j) else none
def cq (K : KK) (σ : MM) (τ : TT) (a : Nat) : va_E := if (sh a).1 < 100 then .inr ((sh a).1, (List.range (nfd (sh a).1)).map (fq K σ τ (sh a).1 a)) else if (sh a).1 < 104 then ca K σ a ((sh a).1 - 100) (sh a).2 else .inl (K.2.2.1 ((sh a).1 - 100), (sh a).2, .inr (.inr (.inr (.inr (rq K τ a)))))
def wq (K : KK) (n : Nat) (σ : MM) (τ : TT) : va_W := (List.range n).map (fun a => (K.2.1 + a, cq K σ τ a))
section WQ
variable {K : KK} {n a : Nat} {σ σ' : MM} {τ τ' : TT}
theorem wq_at (h : a < n) : (wq K n σ τ)[a]? = some (K.2.1 + a, cq K σ τ a) := by simp [wq, h]
theorem wq_len : (wq K n σ τ).length = n := by simp [wq]
theorem wq_s : wq K (n + 1) σ τ = wq K n σ τ ++ [(K.2.1 + n, cq K σ τ n)] := by simp [wq, List.range_succ]
theorem wq_D : va_D (AA K) (wq K n σ τ) := by
  refine ⟨fun i j p q hi hj e => ?_, fun k q hk => ?_⟩
  · have h1 : i < n := by have := (List.getElem?_eq_some_iff.mp hi).1; rwa [wq_len] at this
    have h2 : j < n := by have := (List.getElem?_eq_some_iff.mp hj).1; rwa [wq_len] at this
    rw [wq_at h1] at hi
    rw [wq_at h2] at hj
    cases hi
    cases hj
    simp only at e
    omega
  · have h1 : k < n := by have := (List.getElem?_eq_some_iff.mp hk).1; rwa [wq_len] at this
    rw [wq_at h1] at hk
    cases hk
    exact Nat.le_add_right _ _
theorem wq_set {e : va_E} (h : a < n) (he : cq K σ' τ' a = e) (ho : ∀ b, b < n → b ≠ a → cq K σ' τ' b = cq K σ τ b) : (wq K n σ τ).set a (K.2.1 + a, e) = wq K n σ' τ' := by
  apply List.ext_getElem?
  intro j
  rw [List.getElem?_set]
  by_cases hj : j < n
  · by_cases e : a = j
    · subst e
      rw [if_pos rfl, if_pos (by rw [wq_len]; exact h), wq_at h, he]
    · rw [if_neg e, wq_at hj, wq_at hj, ho j hj (fun q => e q.symm)]
  · rw [List.getElem?_eq_none (by rw [wq_len]; omega : (wq K n σ' τ').length ≤ j)]
    have : (wq K n σ τ)[j]? = none := List.getElem?_eq_none (by rw [wq_len]; omega)
    by_cases e : a = j
    · omega
    · rw [if_neg e, this]
theorem cq_ob {c : Nat} (h : sh a = (c, 0)) (hc : c < 100) : cq K σ τ a = .inr (c, (List.range (nfd c)).map (fq K σ τ c a)) := by
  unfold cq
  rw [h, if_pos hc]
theorem cq_ar {t m : Nat} (h : sh a = (100 + t, m)) (ht : t < 4) : cq K σ τ a = ca K σ a t m := by
  unfold cq
  rw [h, if_neg (by show ¬ 100 + t < 100; omega), if_pos (by show 100 + t < 104; omega)]
  show ca K σ a (100 + t - 100) m = _
  rw [Nat.add_sub_cancel_left]
theorem cq_rr {t m : Nat} (h : sh a = (100 + t, m)) (ht : 4 ≤ t) : cq K σ τ a = .inl (K.2.2.1 t, m, .inr (.inr (.inr (.inr (rq K τ a))))) := by
  unfold cq
  rw [h, if_neg (by show ¬ 100 + t < 100; omega), if_neg (by show ¬ 100 + t < 104; omega)]
  show Sum.inl (K.2.2.1 (100 + t - 100), _) = _
  rw [Nat.add_sub_cancel_left]
/-- nothing is there yet from n on -/
def Fr (n : Nat) (σ : MM) (τ : TT) : Prop := (∀ b j, n ≤ b → τ b j = false ∧ σ.1 b j = 0 ∧ σ.2.1 b j = 0) ∧ σ.2.2 = none
theorem Fr.mono {m : Nat} (h : Fr n σ τ) (hm : n ≤ m) : Fr m σ τ := ⟨fun b j hb => h.1 b j (by omega), h.2⟩
theorem Fr.st {j : Nat} (h : Fr n σ τ) (ha : a < n) : Fr n σ (st2 τ a j) := ⟨fun b i hb => ⟨by
  have := (h.1 b i hb).1
  unfold st2
  rw [this]
  simp
  intro e
  omega, (h.1 b i hb).2⟩, h.2⟩
theorem st2_ne {b j i : Nat} (h : b ≠ a) : st2 τ a j b i = τ b i := by simp [st2, h]
theorem st2_at {j : Nat} : st2 τ a j a j = true := by simp [st2]
theorem st2_nj {i j : Nat} (h : i ≠ j) : st2 τ a j a i = τ a i := by simp [st2, h]
theorem st2_t {b i j : Nat} (h : τ b i = true) : st2 τ a j b i = true := by simp [st2, h]
theorem fq_st {c i j b : Nat} (h : b ≠ a) : fq K σ (st2 τ a j) c b i = fq K σ τ c b i := by unfold fq; rw [st2_ne h]
theorem cq_st {b j : Nat} (h : b ≠ a) : cq K σ (st2 τ a j) b = cq K σ τ b := by
  have e1 : ∀ c, fq K σ (st2 τ a j) c b = fq K σ τ c b := fun c => funext fun i => fq_st h
  have e2 : rq K (st2 τ a j) b = rq K τ b := funext fun i => by unfold rq; rw [st2_ne h]
  unfold cq
  simp only [e1, e2]
/-- what is new is behind all others -/
theorem new_at {e : va_E} {H : Heap} (hP : va_P K.1 cl0 (wq K n σ τ ++ [(a, e)]) H) (hD : va_D (AA K) (wq K n σ τ ++ [(a, e)])) (hs : H.size ≤ K.2.1 + n + 1) : a = K.2.1 + n := by
  have hl : (wq K n σ τ ++ [(a, e)])[n]? = some (a, e) := by
    rw [List.getElem?_append_right (by rw [wq_len]; exact Nat.le_refl _), wq_len, Nat.sub_self]
    rfl
  have h1 : a < H.size := (hP n _ hl).lt
  have h2 : K.2.1 ≤ a := hD.2 n _ hl
  rcases Nat.lt_or_ge a (K.2.1 + n) with q | q
  · have h3 : (wq K n σ τ ++ [(a, e)])[a - K.2.1]? = some (K.2.1 + (a - K.2.1), cq K σ τ (a - K.2.1)) := by
      rw [List.getElem?_append_left (by rw [wq_len]; omega)]
      exact wq_at (by omega)
    have := hD.1 _ _ _ _ h3 hl (by show K.2.1 + (a - K.2.1) = a; omega)
    omega
  · omega
end WQ
/-! ===== the judgement ===== -/
def AO (U : State) : Prop := va_AO RX4 U ∧ va_AO RX1 U ∧ (Cond.arrayOver (.array .int)).before #[] U = true
theorem AO.moved {u U : State} (hvm : u.vm.Alike U.vm) (h : AO u) : AO U := ⟨h.1.moved hvm, h.2.1.moved hvm, over_moved hvm h.2.2⟩
abbrev EQ : Type := Room → List Frame → Array Value → State → State → Prop
def CN (K : KK) (n0 d zc zs : Nat) (M : MI) (p : Program) (R : Room) (s : State) (m : MethodId) (args : Array Value) (meth : Method) (c : Code) : Prop :=
  p.tables.exec = Jvm.exec ∧ c.code = M.2.2.1 ∧ meth.sig.returnType = M.2.2.2.2 ∧ c.maxLocals = M.2.2.2.1 ∧ s.vm.findClass M.1 = some m.cls ∧ (∀ w ∈ mws M, w.before args s = true) ∧ meth.locks = false ∧ KU K s ∧ (d ≤ R.frames ∧ 32 * d ≤ R.locals ∧ zc ≤ R.cells ∧ zs ≤ R.slots) ∧ AO s ∧ s.heap.size = K.2.1 + n0 ∧ (M.2.1.name = "<init>" → meth.name = "<init>")
def RN (l : Launch) (K : KK) (n0 d zc zs : Nat) (M : MI) (E : EQ) (pc : Nat) (lv : List (Nat × Value)) (st : List Value) (k z : Nat) (σ : MM) (τ : TT) : Prop :=
  ∀ (p : Program) (e : Env) (R : Room) (s : State) (m : MethodId) (args : Array Value) (below : List Frame) (meth : Method) (c : Code), CN K n0 d zc zs M p R s m args meth c → ∀ (H : Heap) (locs : List Loc) (ls : Array Slot), va_P K.1 cl0 (wq K (n0 + k) σ τ) H → va_S (AA K) s.heap H locs → lv_has ls M.2.2.2.1 lv → W p l e R s m args below meth c H locs k z (E R below args s) (F0 m pc ls st)
section RNS
variable {l : Launch} {K : KK} {n0 d zc zs : Nat} {M : MI} {E : EQ} {pc : Nat} {lv : List (Nat × Value)} {st : List Value} {k z : Nat} {σ : MM} {τ : TT}
variable {p : Program} {e : Env} {R : Room} {s : State} {m : MethodId} {args : Array Value} {below : List Frame} {meth : Method} {c : Code}
theorem CN.w (C : CN K n0 d zc zs M p R s m args meth c) {w : Cond} (h : w ∈ lg) : w.before args s = true := C.2.2.2.2.2.1 w (List.mem_cons_of_mem _ h)
theorem CN.own (C : CN K n0 d zc zs M p R s m args meth c) : s.vm.findClass M.1 = some m.cls := C.2.2.2.2.1
theorem CN.vk (C : CN K n0 d zc zs M p R s m args meth c) : va_K K.1 cl0 (tys K) s := C.2.2.2.2.2.2.2.1.1
theorem CN.ku (C : CN K n0 d zc zs M p R s m args meth c) : KU K s := C.2.2.2.2.2.2.2.1
theorem CN.rm (C : CN K n0 d zc zs M p R s m args meth c) : d ≤ R.frames ∧ 32 * d ≤ R.locals ∧ zc ≤ R.cells ∧ zs ≤ R.slots := C.2.2.2.2.2.2.2.2.1
theorem CN.ao (C : CN K n0 d zc zs M p R s m args meth c) : AO s := C.2.2.2.2.2.2.2.2.2.1
theorem CN.sz (C : CN K n0 d zc zs M p R s m args meth c) : s.heap.size = K.2.1 + n0 := C.2.2.2.2.2.2.2.2.2.2.1
theorem CN.nm (C : CN K n0 d zc zs M p R s m args meth c) : M.2.1.name = "<init>" → meth.name = "<init>" := C.2.2.2.2.2.2.2.2.2.2.2
theorem CN.A (C : CN K n0 d zc zs M p R s m args meth c) : ∀ q, s.heap.size ≤ q → AA K q := fun q h => by
  have := C.sz
  show K.2.1 ≤ q
  omega
theorem RN.go {pc2 : Nat} {stk2 : List Value} (f : ∀ (p : Program) (e : Env) (R : Room) (s : State) (m : MethodId) (args : Array Value) (below : List Frame) (meth : Method) (c : Code) (H : Heap) (locs : List Loc) (ls : Array Slot) (Q : State → Prop), CN K n0 d zc zs M p R s m args meth c → lv_has ls M.2.2.2.1 lv → W p l e R s m args below meth c H locs k z Q (F0 m pc2 ls stk2) → W p l e R s m args below meth c H locs k z Q (F0 m pc ls st)) (kk : RN l K n0 d zc zs M E pc2 lv stk2 k z σ τ) : RN l K n0 d zc zs M E pc lv st k z σ τ := by
  intro p e R s m args below meth c C H locs ls hP hS hl
  exact f p e R s m args below meth c H locs ls _ C hl (kk p e R s m args below meth c C H locs ls hP hS hl)
theorem RN.gol {pc2 : Nat} {stk2 : List Value} {lv2 : List (Nat × Value)} (f : ∀ (p : Program) (e : Env) (R : Room) (s : State) (m : MethodId) (args : Array Value) (below : List Frame) (meth : Method) (c : Code) (H : Heap) (locs : List Loc) (ls : Array Slot) (Q : State → Prop), CN K n0 d zc zs M p R s m args meth c → lv_has ls M.2.2.2.1 lv → (∀ ls2, lv_has ls2 M.2.2.2.1 lv2 → W p l e R s m args below meth c H locs k z Q (F0 m pc2 ls2 stk2)) → W p l e R s m args below meth c H locs k z Q (F0 m pc ls st)) (kk : RN l K n0 d zc zs M E pc2 lv2 stk2 k z σ τ) : RN l K n0 d zc zs M E pc lv st k z σ τ := by
  intro p e R s m args below meth c C H locs ls hP hS hl
  exact f p e R s m args below meth c H locs ls _ C hl (fun ls2 hl2 => kk p e R s m args below meth c C H locs ls2 hP hS hl2)
theorem rn_sub {lv2 : List (Nat × Value)} (ks : List Nat) (h : lv_pick lv ks = lv2) (kk : RN l K n0 d zc zs M E pc lv2 st k z σ τ) : RN l K n0 d zc zs M E pc lv st k z σ τ := RN.gol (fun p e R s m args below meth c H locs ls Q C hl w => w ls (lv_sub hl ks h)) kk
theorem rn_iconst {i : Int} (v : Int32) (hd : decode M.2.2.1 pc = .ok (.iconst i, 1)) (hv : Int32.ofInt i = v) (kk : RN l K n0 d zc zs M E (pc + 1) lv (.int v :: st) k z σ τ) : RN l K n0 d zc zs M E pc lv st k z σ τ := RN.go (fun p e R s m args below meth c H locs ls Q C hl w => lv_iconst C.1 C.2.1 hd hv w) kk
theorem rn_bipush {i : Int} (v : Int32) (hd : decode M.2.2.1 pc = .ok (.bipush i, 2)) (hv : (Int8.ofInt i).toInt32 = v) (kk : RN l K n0 d zc zs M E (pc + 2) lv (.int v :: st) k z σ τ) : RN l K n0 d zc zs M E pc lv st k z σ τ := RN.go (fun p e R s m args below meth c H locs ls Q C hl w => lv_bipush C.1 C.2.1 hd hv w) kk
theorem rn_sipush {i : Int} (v : Int32) (hd : decode M.2.2.1 pc = .ok (.sipush i, 3)) (hv : (Int16.ofInt i).toInt32 = v) (kk : RN l K n0 d zc zs M E (pc + 3) lv (.int v :: st) k z σ τ) : RN l K n0 d zc zs M E pc lv st k z σ τ := RN.go (fun p e R s m args below meth c H locs ls Q C hl w => lv_sipush C.1 C.2.1 hd hv w) kk
theorem rn_ldc2 {i : Nat} {v : Int64} (hw : Cond.constantLong M.1 i v ∈ lg) (hd : decode M.2.2.1 pc = .ok (.ldc2_w i, 3)) (kk : RN l K n0 d zc zs M E (pc + 3) lv (.long v :: st) k z σ τ) : RN l K n0 d zc zs M E pc lv st k z σ τ := RN.go (fun p e R s m args below meth c H locs ls Q C hl w => lv_ldc2 C.1 C.2.1 C.own (C.w hw) hd w) kk
theorem rn_iload_n {i : Fin 4} {x : Int32} (j : Nat) (hd : decode M.2.2.1 pc = .ok (.iload_n i, 1)) (hj : lv[j]? = some (i.val, .int x)) (kk : RN l K n0 d zc zs M E (pc + 1) lv (.int x :: st) k z σ τ) : RN l K n0 d zc zs M E pc lv st k z σ τ := RN.go (fun p e R s m args below meth c H locs ls Q C hl w => lv_iload_n C.1 C.2.1 hd rfl (lv_at hl j hj) w) kk
theorem rn_aload_n {i : Fin 4} {x : Nat} (j : Nat) (hd : decode M.2.2.1 pc = .ok (.aload_n i, 1)) (hj : lv[j]? = some (i.val, .ref x)) (kk : RN l K n0 d zc zs M E (pc + 1) lv (.ref x :: st) k z σ τ) : RN l K n0 d zc zs M E pc lv st k z σ τ := RN.go (fun p e R s m args below meth c H locs ls Q C hl w => lv_aload_n C.1 C.2.1 hd rfl (lv_at hl j hj) w) kk
theorem rn_istore_n {i : Fin 4} {x : Int32} (lv2 : List (Nat × Value)) (hd : decode M.2.2.1 pc = .ok (.istore_n i, 1)) (hn : i.val < M.2.2.2.1) (hl2 : (i.val, Value.int x) :: lv.filter (fun q => !(q.1 == i.val) && !(q.1 + 1 == i.val && q.2.category == 2)) = lv2) (kk : RN l K n0 d zc zs M E (pc + 1) lv2 st k z σ τ) : RN l K n0 d zc zs M E pc lv (.int x :: st) k z σ τ := RN.gol (fun p e R s m args below meth c H locs ls Q C hl w => lv_istore_n C.1 C.2.1 hd rfl hl hn hl2 w) kk
theorem rn_istore {i : Nat} {x : Int32} (lv2 : List (Nat × Value)) (hd : decode M.2.2.1 pc = .ok (.istore i, 2)) (hn : i < M.2.2.2.1) (hl2 : (i, Value.int x) :: lv.filter (fun q => !(q.1 == i) && !(q.1 + 1 == i && q.2.category == 2)) = lv2) (kk : RN l K n0 d zc zs M E (pc + 2) lv2 st k z σ τ) : RN l K n0 d zc zs M E pc lv (.int x :: st) k z σ τ := RN.gol (fun p e R s m args below meth c H locs ls Q C hl w => lv_istore C.1 C.2.1 hd hl hn hl2 w) kk
theorem rn_astore_n {i : Fin 4} {x : Nat} (lv2 : List (Nat × Value)) (hd : decode M.2.2.1 pc = .ok (.astore_n i, 1)) (hn : i.val < M.2.2.2.1) (hl2 : (i.val, Value.ref x) :: lv.filter (fun q => !(q.1 == i.val) && !(q.1 + 1 == i.val && q.2.category == 2)) = lv2) (kk : RN l K n0 d zc zs M E (pc + 1) lv2 st k z σ τ) : RN l K n0 d zc zs M E pc lv (.ref x :: st) k z σ τ := RN.gol (fun p e R s m args below meth c H locs ls Q C hl w => lv_astore_n C.1 C.2.1 hd rfl hl hn hl2 w) kk
theorem rn_iinc {i : Nat} {zz : Int} {x x2 : Int32} (lv2 : List (Nat × Value)) (j : Nat) (hd : decode M.2.2.1 pc = .ok (.iinc i zz, 3)) (hj : lv[j]? = some (i, .int x)) (hz : x + Int32.ofInt zz = x2) (hn : i < M.2.2.2.1) (hl2 : (i, Value.int x2) :: lv.filter (fun q => !(q.1 == i) && !(q.1 + 1 == i && q.2.category == 2)) = lv2) (kk : RN l K n0 d zc zs M E (pc + 3) lv2 st k z σ τ) : RN l K n0 d zc zs M E pc lv st k z σ τ := RN.gol (fun p e R s m args below meth c H locs ls Q C hl w => lv_iinc C.1 C.2.1 hd hl hj hz hn hl2 w) kk
theorem rn_dup {v : Value} (hd : decode M.2.2.1 pc = .ok (.dup, 1)) (hv : v.category = 1) (kk : RN l K n0 d zc zs M E (pc + 1) lv (v :: v :: st) k z σ τ) : RN l K n0 d zc zs M E pc lv (v :: st) k z σ τ := RN.go (fun p e R s m args below meth c H locs ls Q C hl w => lv_dup C.1 C.2.1 hd hv w) kk
theorem rn_goto {off : Int} (tgt : Nat) (hd : decode M.2.2.1 pc = .ok (.goto off, 3)) (ht : (pc : Int) + off = (tgt : Int)) (kk : RN l K n0 d zc zs M E tgt lv st k z σ τ) : RN l K n0 d zc zs M E pc lv st k z σ τ := RN.go (fun p e R s m args below meth c H locs ls Q C hl w => lv_goto C.1 C.2.1 hd ht w) kk
theorem rn_ge_t {x y : Int32} {off : Int} (tgt : Nat) (hq : y ≤ x) (hd : decode M.2.2.1 pc = .ok (.if_icmp .ge off, 3)) (ht : (pc : Int) + off = (tgt : Int)) (kk : RN l K n0 d zc zs M E tgt lv st k z σ τ) : RN l K n0 d zc zs M E pc lv (.int y :: .int x :: st) k z σ τ := RN.go (fun p e R s m args below meth c H locs ls Q C hl w => lv_icmp_ge C.1 C.2.1 hd ht (fun _ => w) (fun q => absurd hq q)) kk
theorem rn_ge_f {x y : Int32} {off : Int} (tgt : Nat) (hq : ¬ y ≤ x) (hd : decode M.2.2.1 pc = .ok (.if_icmp .ge off, 3)) (ht : (pc : Int) + off = (tgt : Int)) (kk : RN l K n0 d zc zs M E (pc + 3) lv st k z σ τ) : RN l K n0 d zc zs M E pc lv (.int y :: .int x :: st) k z σ τ := RN.go (fun p e R s m args below meth c H locs ls Q C hl w => lv_icmp_ge C.1 C.2.1 hd ht (fun q => absurd q hq) (fun _ => w)) kk
theorem rn_obj {idx a : Nat} (hl : Cond.methodLink M.1 idx objectInit ∈ lg) (hi : Cond.instanceMethod objectInit ∈ lg) (hc : Cond.code objectInit ⟨#[0xb1]⟩ 1 none ∈ lg) (hw : (st.map fun v => v.category).sum ≤ 8) (hd1 : 1 ≤ d) (hd : decode M.2.2.1 pc = .ok (.invokespecial idx, 3)) (kk : RN l K n0 d zc zs M E (pc + 3) lv st k z σ τ) : RN l K n0 d zc zs M E pc lv (.ref a :: st) k z σ τ := RN.go (fun p e R s m args below meth c H locs ls Q C hl2 w => W.objInit C.1 C.2.1 C.own (C.w hl) (C.w hi) (C.w hc) rfl (by rw [C.2.2.2.1]; exact hl2.1) rfl hd (Nat.le_trans hd1 C.rm.1) (Nat.le_trans (Nat.add_le_add_right (lv_room hw) 12) (by have := C.rm.2.1; omega)) w) kk
/-! ===== what makes cells ===== -/
def dfv (t : Nat) : Value := match t with
  | 0 => .int 0
  | 1 => .long 0
  | _ => .null
theorem fq_new {ci n j : Nat} (hF : Fr n σ τ) : fq K σ τ ci n j = dfv (fty ci j) := by
  unfold fq
  have h := hF.1 n j (Nat.le_refl _)
  by_cases q : fty ci j = 2
  · rw [if_pos ⟨q, h.1⟩, q]; rfl
  · rw [if_neg (fun x => q x.1)]
    unfold fv
    match hf : fty ci j, q with
    | 0, _ => show Value.int (σ.1 n j) = _; rw [h.2.1]; rfl
    | 1, _ => show Value.long (σ.2.1 n j) = _; rw [h.2.2]; rfl
    | 2, q => exact absurd rfl q
    | t + 3, _ => show wr K σ.2.2 = _; rw [hF.2]; rfl
/-- a class that can be made -/
def KC (ci : Nat) (C : String) : Prop := ∃ (T : u_T) (N : Nat) (ty : Nat → FieldType), cl0[ci]? = some (C, T, N) ∧ N = nfd ci ∧ (∀ w ∈ u_ws C T N, w ∈ lg) ∧ (∀ j, j < N → parseFieldDescriptor (T j).2.2.1 = some (ty j)) ∧ Cond.instantiable C N ∈ lg ∧ Cond.initialized C ∈ lg ∧ ∀ j, j < N → defaultValue (ty j) = dfv (fty ci j)
theorem rn_new {idx ci N : Nat} {C : String} (hK : KC ci C) (hci : ci < 100) (hN : nfd ci = N) (hl : Cond.classLink M.1 idx C ∈ lg) (hsh : sh (n0 + k) = (ci, 0)) (hF : Fr (n0 + k) σ τ) (hz1 : k + 1 ≤ zc) (hz2 : z + N ≤ zs) (hd : decode M.2.2.1 pc = .ok (.new idx, 3)) (kk : RN l K n0 d zc zs M E (pc + 3) lv (.ref (K.2.1 + (n0 + k)) :: st) (k + 1) (z + N) σ τ) : RN l K n0 d zc zs M E pc lv st k z σ τ := by
  subst hN
  obtain ⟨T, N, ty, h1, rfl, h3, h4, h5, h6, h7⟩ := hK
  intro p e R s m args below meth c Cx H locs ls hP hS hl2
  refine va_new (ci := ci) (fs := (List.range (nfd ci)).map (fq K σ τ ci (n0 + k))) Cx.1 Cx.2.1 (fun w q => Cx.w q) h3 ty h4 Cx.own (Cx.w hl) (Cx.w h5) (Cx.w h6) Cx.vk hP wq_D hS Cx.A h1 (fun j hj => ?_) (Nat.le_trans hz1 Cx.rm.2.2.1) (Nat.le_trans hz2 Cx.rm.2.2.2) hd (fun q H1 hP1 hD1 hS1 => ?_)
  · rw [h7 j hj]
    unfold vp_V
    rw [List.getD_eq_getElem?_getD, fst_at hj]
    exact (fq_new hF).symm
  · intro T hT X
    have hs := X.heapSize
    rw [hT, Cx.sz] at hs
    have e1 := new_at hP1 hD1 (by omega)
    subst e1
    rw [← cq_ob hsh hci, ← wq_s] at hP1
    exact kk p e R s m args below meth c Cx H1 locs ls hP1 hS1 hl2 T hT X
/-- arrays of numbers: which kind they are -/
def atk (t : Nat) : ArrayType := match t with
  | 0 => .int
  | 1 => .long
  | 2 => .char
  | _ => .boolean
theorem rn_newa {t N : Nat} {v : Int32} (ht : t < 4) (hw : Cond.arrayClass (newarray.typeOf (atk t)) ∈ lg) (hsh : sh (n0 + k) = (100 + t, N)) (hF : Fr (n0 + k) σ τ) (hv : ¬ v < 0) (hN : v.toNatClampNeg = N) (hN2 : N < 10000) (hz1 : k + 1 ≤ zc) (hz2 : z + N ≤ zs) (hd : decode M.2.2.1 pc = .ok (.newarray (atk t), 2)) (kk : RN l K n0 d zc zs M E (pc + 2) lv (.ref (K.2.1 + (n0 + k)) :: st) (k + 1) (z + N) σ τ) : RN l K n0 d zc zs M E pc lv (.int v :: st) k z σ τ := by
  intro p e R s m args below meth c Cx H locs ls hP hS hl2
  have fin : ∀ (a0 : vp_A) (q : Nat) (cA : ClassId) (H1 : Heap), ca K σ (n0 + k) t N = .inl (K.2.2.1 t, a0) → s.vm.findClass ("[" ++ (newarray.typeOf (atk t)).toString) = some cA → s.vm.findClass ("[" ++ (newarray.typeOf (atk t)).toString) = some (K.2.2.1 t) → va_P K.1 cl0 (wq K (n0 + k) σ τ ++ [(q, .inl (cA, a0))]) H1 → va_D (AA K) (wq K (n0 + k) σ τ ++ [(q, .inl (cA, a0))]) → va_S (AA K) s.heap H1 locs → W p l e R s m args below meth c H1 locs (k + 1) (z + N) (E R below args s) (F0 m (pc + 2) ls (.ref q :: st)) := by
    intro a0 q cA H1 hca f1 f2 hP1 hD1 hS1 T hT X
    have ec : cA = K.2.2.1 t := Option.some.inj (f1.symm.trans f2)
    subst ec
    have hs := X.heapSize
    rw [hT, Cx.sz] at hs
    have e1 := new_at hP1 hD1 (by omega)
    subst e1
    rw [← hca, ← cq_ar (τ := τ) hsh ht, ← wq_s] at hP1
    exact kk p e R s m args below meth c Cx H1 locs ls hP1 hS1 hl2 T hT X
  have z1 : ∀ j, σ.1 (n0 + k) j = 0 := fun j => (hF.1 _ j (Nat.le_refl _)).2.1
  have z2 : ∀ j, σ.2.1 (n0 + k) j = 0 := fun j => (hF.1 _ j (Nat.le_refl _)).2.2
  have hl7 : (tys K).length = 7 := rfl
  rcases (show t = 0 ∨ t = 1 ∨ t = 2 ∨ t = 3 by omega) with rfl | rfl | rfl | rfl
  · exact va_newa (atype := .int) (ty := .int) (a0 := (N, .inl (fun j => σ.1 (n0 + k) j))) Cx.1 Cx.2.1 (Cx.w hw) rfl Cx.vk hP wq_D hS Cx.A (fun cA => by rw [vp_cell_i]; exact congrArg (arrV cA N) (funext fun j => by rw [z1 j]; rfl)) hv hN (by show N * 4 ≤ _; omega) (Nat.le_trans hz1 Cx.rm.2.2.1) (Nat.le_trans hz2 Cx.rm.2.2.2) hd (fun q cA H1 hK1 hP1 hD1 hS1 => fin _ q cA H1 rfl (hK1.2 7 _ rfl).2 (Cx.vk.2 0 _ rfl).2 hP1 hD1 hS1)
  · exact va_newa (atype := .long) (ty := .long) (a0 := (N, .inr (.inl (fun j => σ.2.1 (n0 + k) j)))) Cx.1 Cx.2.1 (Cx.w hw) rfl Cx.vk hP wq_D hS Cx.A (fun cA => by rw [vp_cell_l]; exact congrArg (arrV cA N) (funext fun j => by rw [z2 j]; rfl)) hv hN (by show N * 8 ≤ _; omega) (Nat.le_trans hz1 Cx.rm.2.2.1) (Nat.le_trans hz2 Cx.rm.2.2.2) hd (fun q cA H1 hK1 hP1 hD1 hS1 => fin _ q cA H1 rfl (hK1.2 7 _ rfl).2 (Cx.vk.2 1 _ rfl).2 hP1 hD1 hS1)
  · exact va_newa (atype := .char) (ty := .char) (a0 := (N, .inl (fun j => σ.1 (n0 + k) j))) Cx.1 Cx.2.1 (Cx.w hw) rfl Cx.vk hP wq_D hS Cx.A (fun cA => by rw [vp_cell_i]; exact congrArg (arrV cA N) (funext fun j => by rw [z1 j]; rfl)) hv hN (by show N * 2 ≤ _; omega) (Nat.le_trans hz1 Cx.rm.2.2.1) (Nat.le_trans hz2 Cx.rm.2.2.2) hd (fun q cA H1 hK1 hP1 hD1 hS1 => fin _ q cA H1 rfl (hK1.2 7 _ rfl).2 (Cx.vk.2 2 _ rfl).2 hP1 hD1 hS1)
  · exact va_newa (atype := .boolean) (ty := .boolean) (a0 := (N, .inl (fun j => σ.1 (n0 + k) j))) Cx.1 Cx.2.1 (Cx.w hw) rfl Cx.vk hP wq_D hS Cx.A (fun cA => by rw [vp_cell_i]; exact congrArg (arrV cA N) (funext fun j => by rw [z1 j]; rfl)) hv hN (by show N * 1 ≤ _; omega) (Nat.le_trans hz1 Cx.rm.2.2.1) (Nat.le_trans hz2 Cx.rm.2.2.2) hd (fun q cA H1 hK1 hP1 hD1 hS1 => fin _ q cA H1 rfl (hK1.2 7 _ rfl).2 (Cx.vk.2 3 _ rfl).2 hP1 hD1 hS1)
/-- arrays of objects -/
theorem rn_newq {idx t N : Nat} {C : String} {v : Int32} (ht : (tys K)[t]? = some (K.2.2.1 t, .object C)) (ht4 : 4 ≤ t) (hw : Cond.classLink M.1 idx C ∈ lg) (ho : ∀ U, AO U → va_AO C U) (hsh : sh (n0 + k) = (100 + t, N)) (hF : Fr (n0 + k) σ τ) (hv : ¬ v < 0) (hN : v.toNatClampNeg = N) (hN2 : N < 10000) (hz1 : k + 1 ≤ zc) (hz2 : z + N ≤ zs) (hd : decode M.2.2.1 pc = .ok (.anewarray idx, 3)) (kk : RN l K n0 d zc zs M E (pc + 3) lv (.ref (K.2.1 + (n0 + k)) :: st) (k + 1) (z + N) σ τ) : RN l K n0 d zc zs M E pc lv (.int v :: st) k z σ τ := by
  intro p e R s m args below meth c Cx H locs ls hP hS hl2
  refine va_newq Cx.1 Cx.2.1 Cx.own (Cx.w hw) (ho s Cx.ao) Cx.vk hP wq_D hS Cx.A hv hN (by omega) (Nat.le_trans hz1 Cx.rm.2.2.1) (Nat.le_trans hz2 Cx.rm.2.2.2) hd (fun q cA H1 hK1 hP1 hD1 hS1 => ?_)
  intro T hT X
  obtain ⟨-, -, -, -, -, f1⟩ := (hK1.2 7 _ rfl).2
  obtain ⟨-, -, -, -, -, f2⟩ := (Cx.vk.2 t _ ht).2
  have ec : cA = K.2.2.1 t := Option.some.inj (f1.symm.trans f2)
  subst ec
  have hs := X.heapSize
  rw [hT, Cx.sz] at hs
  have e1 := new_at hP1 hD1 (by omega)
  subst e1
  have er : rq K τ (n0 + k) = fun _ => none := funext fun j => by unfold rq; rw [(hF.1 _ j (Nat.le_refl _)).1]; rfl
  rw [← er, ← cq_rr hsh ht4, ← wq_s] at hP1
  exact kk p e R s m args below meth c Cx H1 locs ls hP1 hS1 hl2 T hT X
end RNS
