/-! ===== the world being made: fields, elements, calls ===== -/
theorem cq_oI {K : KK} {σ : MM} {τ : TT} {a b i : Nat} {x : Int32} (hb : b ≠ a) : cq K (up2 σ.1 a i x, σ.2) τ b = cq K σ τ b := by
  have e : ∀ j, up2 σ.1 a i x b j = σ.1 b j := fun j => by simp [up2, hb]
  have e2 : ∀ c : Nat, fq K (up2 σ.1 a i x, σ.2) τ c b = fq K σ τ c b := fun c => by
    funext j
    unfold fq fv
    simp only [e]
  unfold cq ca
  simp only [e, e2]
theorem cq_oL {K : KK} {σ : MM} {τ : TT} {a b i : Nat} {x : Int64} (hb : b ≠ a) : cq K (σ.1, up2 σ.2.1 a i x, σ.2.2) τ b = cq K σ τ b := by
  have e : ∀ j, up2 σ.2.1 a i x b j = σ.2.1 b j := fun j => by simp [up2, hb]
  have e2 : ∀ c : Nat, fq K (σ.1, up2 σ.2.1 a i x, σ.2.2) τ c b = fq K σ τ c b := fun c => by
    funext j
    unfold fq fv
    simp only [e]
  unfold cq ca
  simp only [e, e2]
theorem Fr.uI {n a i : Nat} {x : Int32} {σ : MM} {τ : TT} (h : Fr n σ τ) (ha : a < n) : Fr n (up2 σ.1 a i x, σ.2) τ := ⟨fun b j hb => ⟨(h.1 b j hb).1, by
  show up2 σ.1 a i x b j = 0
  rw [up2_ne (by omega)]
  exact (h.1 b j hb).2.1, (h.1 b j hb).2.2⟩, h.2⟩
theorem Fr.uL {n a i : Nat} {x : Int64} {σ : MM} {τ : TT} (h : Fr n σ τ) (ha : a < n) : Fr n (σ.1, up2 σ.2.1 a i x, σ.2.2) τ := ⟨fun b j hb => ⟨(h.1 b j hb).1, (h.1 b j hb).2.1, by
  show up2 σ.2.1 a i x b j = 0
  have : ¬ (b = a ∧ j = i) := by omega
  simp [up2, this, (h.1 b j hb).2.2]⟩, h.2⟩
/-- a final reference, put in its own class's constructor -/
def FF0 (ci j : Nat) (own : String) : Prop := ∃ t, (∀ v, narrow t (.ref v) = .ref v ∧ fits t (.ref v) = true) ∧ ∀ (C : String) (T : u_T) (N : Nat), cl0[ci]? = some (C, T, N) → parseFieldDescriptor (T j).2.2.1 = some t ∧ (T j).2.2.2 = true ∧ (T j).1 = own
def EI (K : KK) (n1 mc ms : Nat) (σ' : MM) (τ' : TT) : EQ := fun _ below args s => MQ below (fun _ st o t => (o = .returned none ∧ va_P K.1 cl0 (wq K n1 σ' τ') t.heap) ∧ va_F (AA K) st t) args s mc ms (AA K)
/-- a constructor -/
def CI (l : Launch) (K : KK) (n0 mc ms d : Nat) (M : MI) (av : List Value) (σ : MM) (τ : TT) (σ' : MM) (τ' : TT) : Prop :=
  Met l M.2.1 (mws M) { frames := d, cells := mc, slots := ms, locals := 32 * d } (va_Pc av (fun U => KU K U ∧ AO U ∧ U.heap.size = K.2.1 + n0 ∧ va_P K.1 cl0 (wq K n0 σ τ) U.heap)) (fun _ st o t => (o = .returned none ∧ va_P K.1 cl0 (wq K (n0 + mc) σ' τ') t.heap) ∧ va_F (AA K) st t) mc ms (AA K)
theorem wq_size {K : KK} {n0 k : Nat} {σ : MM} {τ : TT} {H H0 : Heap} {locs : List Loc} (h0 : H0.size = K.2.1 + n0) (hP : va_P K.1 cl0 (wq K (n0 + k) σ τ) H) (hS : va_S (AA K) H0 H locs) : K.2.1 + (n0 + k) ≤ H.size := by
  cases h : n0 + k with
  | zero =>
    have := hS.1
    omega
  | succ n =>
    rw [h] at hP
    have := (hP n _ (wq_at (Nat.lt_succ_self n))).lt
    have e : (K.2.1 + n, cq K σ τ n).1 = K.2.1 + n := rfl
    rw [e] at this
    omega
section RNT
variable {l : Launch} {K : KK} {n0 d zc zs : Nat} {M : MI} {E : EQ} {pc : Nat} {lv : List (Nat × Value)} {st : List Value} {k z : Nat} {σ : MM} {τ : TT}
theorem rn_putF {idx ci j a v : Nat} (hi : FI M.1 idx ci j) (hp : FF0 ci j M.1) (hnm : M.2.1.name = "<init>") (hsh : sh a = (ci, 0)) (hci : ci < 100) (ha : a < n0 + k) (hf : fty ci j = 2) (hv : K.2.1 + rf a j = v) (hd : decode M.2.2.1 pc = .ok (.putfield idx, 3)) (kk : RN l K n0 d zc zs M E (pc + 3) lv st k z σ (st2 τ a j)) : RN l K n0 d zc zs M E pc lv (.ref v :: .ref (K.2.1 + a) :: st) k z σ τ := by
  subst hv
  intro p e R s m args below meth c C H locs ls hP hS hl
  obtain ⟨Cn, T, N, ty0, h1, h2, h3, h4, h5, h6, h7, h8⟩ := hi
  subst h3
  obtain ⟨t, g0, g⟩ := hp
  obtain ⟨g1, g2, g3⟩ := g Cn T (nfd ci) h1
  refine va_putF (D := K.1) (ci := ci) (C := Cn) (T := T) (N := nfd ci) (ref := Cn) (own := M.1) C.1 C.2.1 (fun w q => C.w q) h6 ty0 h7 h8 C.own C.vk hP wq_D hS a (by rw [wq_at ha, cq_ob hsh hci]) h1 j h2 (C.w h4) (fun x q => by rw [h5] at q; exact q) g2 (C.nm hnm) g3 g1 (g0 _).1 (g0 _).2 (by simp [h2]) hd (fun H1 locs1 hP1 hD1 hS1 => ?_)
  have es : ((List.range (nfd ci)).map (fq K σ τ ci a)).set j (.ref (K.2.1 + rf a j)) = (List.range (nfd ci)).map (fq K σ (st2 τ a j) ci a) := by
    refine fst_set h2 ?_ (fun i _ hij => ?_)
    · unfold fq
      rw [st2_at, if_neg (fun q => by cases q.2), fv2 hf]
    · unfold fq
      rw [st2_nj hij]
  rw [es, wq_set (σ' := σ) (τ' := st2 τ a j) ha (cq_ob hsh hci) (fun b _ hb => cq_st hb)] at hP1
  exact kk p e R s m args below meth c C H1 locs1 ls hP1 hS1 hl
theorem rn_getR {idx ci j a : Nat} (hi : FI M.1 idx ci j) (hsh : sh a = (ci, 0)) (hci : ci < 100) (ha : a < n0 + k) (hf : fty ci j = 2) (ht : τ a j = true) (hd : decode M.2.2.1 pc = .ok (.getfield idx, 3)) (kk : RN l K n0 d zc zs M E (pc + 3) lv (.ref (K.2.1 + rf a j) :: st) k z σ τ) : RN l K n0 d zc zs M E pc lv (.ref (K.2.1 + a) :: st) k z σ τ := by
  intro p e R s m args below meth c C H locs ls hP hS hl
  obtain ⟨Cn, T, N, ty, h1, h2, h3, h4, h5, h6, h7, h8⟩ := hi
  subst h3
  refine va_get (D := K.1) (ci := ci) (C := Cn) (T := T) (N := nfd ci) (ref := Cn) C.1 C.2.1 (fun w q => C.w q) h6 C.own C.vk hP a (by rw [wq_at ha, cq_ob hsh hci]) h1 j h2 (C.w h4) (fun x q => by rw [h5] at q; exact q) (fst_at h2) hd ?_
  have ev : fq K σ τ ci a j = .ref (K.2.1 + rf a j) := by
    unfold fq
    rw [ht, if_neg (fun q => by cases q.2), fv2 hf]
  rw [ev]
  exact kk p e R s m args below meth c C H locs ls hP hS hl
theorem rn_aast {t N a v ci i : Nat} {C : String} (ht : (tys K)[t]? = some (K.2.2.1 t, .object C)) (ht4 : 4 ≤ t) (hsh : sh a = (100 + t, N)) (hv : sh v = (ci, 0)) (hci : ci < 100) (hc : (cl0[ci]?).map (fun q => q.1) = some C) (ha : a < n0 + k) (hvk : v < n0 + k) (hr : rf a i = v) (hi : i < N) (hN : N < 10000) (hd : decode M.2.2.1 pc = .ok (.aastore, 1)) (kk : RN l K n0 d zc zs M E (pc + 1) lv st k z σ (st2 τ a i)) : RN l K n0 d zc zs M E pc lv (.ref (K.2.1 + v) :: .int (nI i) :: .ref (K.2.1 + a) :: st) k z σ τ := by
  intro p e R s m args below meth c Cx H locs ls hP hS hl
  obtain ⟨q, hc1, hc2⟩ : ∃ q, cl0[ci]? = some q ∧ q.1 = C := by
    cases h : cl0[ci]? with
    | none => rw [h] at hc; cases hc
    | some q => rw [h] at hc; exact ⟨q, rfl, Option.some.inj hc⟩
  subst hc2
  have hcl : (nI i).toNatClampNeg = i := cl_n (by omega)
  refine va_astq Cx.1 Cx.2.1 Cx.vk hP wq_D hS a t v ci (by rw [wq_at ha, cq_rr hsh ht4]) ht (by rw [wq_at hvk, cq_ob hv hci]) hc1 (vp_in_nI hi (by omega)) hd (fun H1 locs1 hP1 hD1 hS1 => ?_)
  have er : va_up (rq K τ a) (nI i).toNatClampNeg (some (K.2.1 + v)) = rq K (st2 τ a i) a := by
    rw [hcl]
    funext j
    unfold va_up rq
    by_cases q : j = i
    · subst q
      rw [st2_at, hr]
      simp
    · rw [st2_nj q]
      simp [q]
  rw [er, wq_set (σ' := σ) (τ' := st2 τ a i) ha (cq_rr hsh ht4) (fun b _ hb => cq_st hb)] at hP1
  exact kk p e R s m args below meth c Cx H1 locs1 ls hP1 hS1 hl
theorem rn_iast {N a i : Nat} {x : Int32} (hsh : sh a = (100 + 0, N)) (ha : a < n0 + k) (hi : i < N) (hN : N < 10000) (hd : decode M.2.2.1 pc = .ok (.iastore, 1)) (kk : RN l K n0 d zc zs M E (pc + 1) lv st k z (up2 σ.1 a i x, σ.2) τ) : RN l K n0 d zc zs M E pc lv (.int x :: .int (nI i) :: .ref (K.2.1 + a) :: st) k z σ τ := by
  intro p e R s m args below meth c Cx H locs ls hP hS hl
  have hcl : (nI i).toNatClampNeg = i := cl_n (by omega)
  refine va_iast Cx.1 Cx.2.1 Cx.vk hP wq_D hS a 0 (by rw [wq_at ha, cq_ar hsh (by decide)]; rfl) rfl (vp_in_nI hi (by omega)) hd (fun H1 locs1 hP1 hD1 hS1 => ?_)
  rw [wq_set (σ' := (up2 σ.1 a i x, σ.2)) (τ' := τ) ha (by rw [cq_ar hsh (by decide), hcl]; unfold ca; simp only [up2_row]; rfl) (fun b _ hb => cq_oI hb)] at hP1
  exact kk p e R s m args below meth c Cx H1 locs1 ls hP1 hS1 hl
theorem rn_last {N a i : Nat} {x : Int64} (hsh : sh a = (100 + 1, N)) (ha : a < n0 + k) (hi : i < N) (hN : N < 10000) (hd : decode M.2.2.1 pc = .ok (.lastore, 1)) (kk : RN l K n0 d zc zs M E (pc + 1) lv st k z (σ.1, up2 σ.2.1 a i x, σ.2.2) τ) : RN l K n0 d zc zs M E pc lv (.long x :: .int (nI i) :: .ref (K.2.1 + a) :: st) k z σ τ := by
  intro p e R s m args below meth c Cx H locs ls hP hS hl
  have hcl : (nI i).toNatClampNeg = i := cl_n (by omega)
  refine va_last Cx.1 Cx.2.1 Cx.vk hP wq_D hS a 1 (by rw [wq_at ha, cq_ar hsh (by decide)]; rfl) rfl (vp_in_nI hi (by omega)) hd (fun H1 locs1 hP1 hD1 hS1 => ?_)
  rw [wq_set (σ' := (σ.1, up2 σ.2.1 a i x, σ.2.2)) (τ' := τ) ha (by rw [cq_ar hsh (by decide), hcl]; unfold ca; simp only [up2_row]; rfl) (fun b _ hb => cq_oL hb)] at hP1
  exact kk p e R s m args below meth c Cx H1 locs1 ls hP1 hS1 hl
theorem rn_alen {t N a : Nat} {ty : FieldType} {v : Int32} (ht : (tys K)[t]? = some (K.2.2.1 t, ty)) (ht4 : 4 ≤ t) (hsh : sh a = (100 + t, N)) (ha : a < n0 + k) (hv : Int32.ofNat N = v) (hd : decode M.2.2.1 pc = .ok (.arraylength, 1)) (kk : RN l K n0 d zc zs M E (pc + 1) lv (.int v :: st) k z σ τ) : RN l K n0 d zc zs M E pc lv (.ref (K.2.1 + a) :: st) k z σ τ := by
  intro p e R s m args below meth c Cx H locs ls hP hS hl
  exact va_alen Cx.1 Cx.2.1 Cx.vk hP a t (by rw [wq_at ha, cq_rr hsh ht4]) ht hv hd (kk p e R s m args below meth c Cx H locs ls hP hS hl)
theorem rn_ret (hr : M.2.2.2.2 = none) (hd : decode M.2.2.1 pc = .ok (.return_, 1)) : RN l K n0 d zc zs M (EI K (n0 + k) k z σ τ) pc lv [] k z σ τ := by
  intro p e R s m args below meth c C H locs ls hP hS hl
  exact W.vret (hlocks := C.2.2.2.2.2.2.1) C.1 C.2.1 (C.2.2.1.trans hr) (fun t ht hW => ⟨⟨rfl, by rw [ht]; exact hP⟩, hS.F ht⟩) hS.2.2 hd
theorem CI.of {mc ms : Nat} {av : List Value} {σ' : MM} {τ' : TT} (hy : plainName M.2.1.cls = true) (ho : M.1 = M.2.1.cls) (hL : (lg_sl av).length ≤ M.2.2.2.1) (h : RN l K n0 d mc ms M (EI K (n0 + mc) mc ms σ' τ') 0 (lv_args 0 av) [] 0 0 σ τ) : CI l K n0 mc ms d M av σ τ σ' τ' := by
  refine Met.ofW (cc := M.2.2.1) (maxL := M.2.2.2.1) (ret := M.2.2.2.2) hy rfl ?_
  intro p e s m args below meth c s₁ B hml hv
  obtain ⟨rfl, hU, hA, hz, hP⟩ := hv
  have hts := atoms_spec (ws := mws M) B.pre
  have hown : s.vm.findClass M.2.1.cls = some m.cls := findClass_of_methodNamed B.named
  have hl := lv_entry av (n := M.2.2.2.1) hL
  rw [lg_entry_eq]
  exact h p e _ s m _ below meth c ⟨B.exec, B.bytes, B.returns, hml, by rw [ho]; exact hown, hts, B.notSynchronized, hU, ⟨Nat.le_refl _, Nat.le_refl _, Nat.le_refl _, Nat.le_refl _⟩, hA, hz, fun hq => (name_of_methodNamed B.named B.method).1.trans hq⟩ s.heap [] _ hP va_S.rf hl
theorem ci_blind {av : List Value} {n : Nat} : FrameBlind (va_Pc av (fun U => KU K U ∧ AO U ∧ U.heap.size = K.2.1 + n ∧ va_P K.1 cl0 (wq K n σ τ) U.heap)) := fun a U g mk q => ⟨q.1, q.2.1.calling, q.2.2.1.moved (Vm.Alike.refl U.vm), q.2.2.2⟩
theorem rn_back {mc ms : Nat} {av stk : List Value} {σ' : MM} {τ' : TT} {p : Program} {e : Env} {R : Room} {s : State} {m : MethodId} {args : Array Value} {below : List Frame} {meth : Method} {c : Code} {H : Heap} {locs : List Loc} {ls : Array Slot} (hr : H.size = K.2.1 + (n0 + k) → va_Run p l e R s m args below meth c H locs k z mc ms (F0 m pc ls stk) st ((fun _ st o t => (o = .returned none ∧ va_P K.1 cl0 (wq K (n0 + k + mc) σ' τ') t.heap) ∧ va_F (AA K) st t) av.toArray) (AA K)) (C : CN K n0 d zc zs M p R s m args meth c) (hP : va_P K.1 cl0 (wq K (n0 + k) σ τ) H) (hS : va_S (AA K) s.heap H locs) (hl : lv_has ls M.2.2.2.1 lv) (kk : RN l K n0 d zc zs M E (pc + 3) lv st (k + mc) (z + ms) σ' τ') : W p l e R s m args below meth c H locs k z (E R below args s) (F0 m pc ls stk) := by
  intro T hT X
  have hs := X.heapSize
  rw [hT, C.sz] at hs
  have hs2 := wq_size C.sz hP hS
  obtain ⟨v, st₀, t, T', L, h0, X', hL, e1, e2, ⟨⟨hv, hP'⟩, hz, hk⟩, stp⟩ := hr (by omega) T hT X
  cases hv
  rw [h0] at hz hk
  have hS' : va_S (AA K) s.heap T'.heap (locs ++ L) := ⟨Nat.le_trans hS.1 (by rw [e1]; exact hz), fun q h1 h2 => by rw [e1, hk q (Nat.lt_of_lt_of_le h1 hS.1) h2]; exact hS.2.1 q h1 h2, fun q hq => by
    rcases List.mem_append.mp hq with h | h
    · exact hS.2.2 q h
    · exact hL q h⟩
  obtain ⟨t2, a1, b1⟩ := kk p e R s m args below meth c C T'.heap (locs ++ L) ls (by rw [e1, ← Nat.add_assoc]; exact hP') hS' hl T' rfl X'
  exact ⟨t2, stp t2 a1, b1⟩
theorem rn_call {o : String} {y : MethodName} {bc : ByteArray} {mL ps idx d' mc ms b : Nat} {stk : List Value} {σ' : MM} {τ' : TT} (As : List Value) (hM : CI l K (n0 + k) mc ms d' (o, y, bc, mL, none) (.ref (K.2.1 + b) :: As) σ τ σ' τ') (hc : CC (o, y, bc, mL, none) ps) (hi : Cond.instanceMethod y ∈ lg) (hy : y.name = "<init>") (hlk : Cond.methodLink M.1 idx y ∈ lg) (hdd : d' + 1 ≤ d) (hn : As.length = ps) (hst : stk = As.reverse ++ .ref (K.2.1 + b) :: st) (hW : (st.map fun v => v.category).sum ≤ 8) (hd : decode M.2.2.1 pc = .ok (.invokespecial idx, 3)) (hz1 : k + mc ≤ zc) (hz2 : z + ms ≤ zs) (kk : RN l K n0 d zc zs M E (pc + 3) lv st (k + mc) (z + ms) σ' τ') : RN l K n0 d zc zs M E pc lv stk k z σ τ := by
  subst hst
  intro p e R s m args below meth c C H locs ls hP hS hl
  have hR := C.rm
  refine rn_back (av := .ref (K.2.1 + b) :: As) (fun hsz => ?_) C hP hS hl kk
  exact va_runI (As := As) (rest := st) (nL := M.2.2.2.1) (Ts := mws M) (own := M.1) ⟨C.1, C.2.1, C.2.2.2.1, C.own, C.2.2.2.2.2.1⟩ hM ⟨callB_of (ws' := lg) ps C.2.2.2.2.2.1 (good_mws hc.1) rfl rfl rfl (C.w hc.2.1) (C.w hlk) hc.2.2.1 ⟨Nat.le_trans hdd hR.1, by have h1 : mL ≤ 13 := hc.2.2.2; have := hR.2.1; show 8 + (mL + 11) + 32 * d' ≤ R.locals; omega⟩, hy, C.w hi⟩ ⟨ci_blind, fun U hU hW2 => ⟨rfl, C.ku.mv hS hU hW2, C.ao.moved hW2.alike, by rw [hU]; exact hsz, by rw [hU]; exact hP⟩⟩ rfl hn hl.1 rfl (lv_room hW) hd ⟨Nat.le_trans hz1 hR.2.2.1, Nat.le_trans hz2 hR.2.2.2⟩
theorem rn_callN {o : String} {y : MethodName} {bc : ByteArray} {mL ps idx d' mc ms b : Nat} {stk : List Value} {σ' : MM} {τ' : TT} (As : List Value) (hM : CI l K (n0 + k) mc ms d' (o, y, bc, mL, none) (.ref (K.2.1 + b) :: As) σ τ σ' τ') (hc : CC (o, y, bc, mL, none) ps) (hi : Cond.instanceMethod y ∈ lg) (hy : y.name = "<init>") (hlk : (M.1, idx, y) ∈ nwM) (hdd : d' + 1 ≤ d) (hn : As.length = ps) (hst : stk = As.reverse ++ .ref (K.2.1 + b) :: st) (hW : (st.map fun v => v.category).sum ≤ 8) (hd : decode M.2.2.1 pc = .ok (.invokespecial idx, 3)) (hz1 : k + mc ≤ zc) (hz2 : z + ms ≤ zs) (kk : RN l K n0 d zc zs M E (pc + 3) lv st (k + mc) (z + ms) σ' τ') : RN l K n0 d zc zs M E pc lv stk k z σ τ := by
  subst hst
  intro p e R s m args below meth c C H locs ls hP hS hl
  have hR := C.rm
  have hnw := C.ku.2.2.2.2.2.2.2.2.2.2.2.2 _ hlk
  refine rn_back (av := .ref (K.2.1 + b) :: As) (fun hsz => ?_) C hP hS hl kk
  exact va_runIN (As := As) (rest := st) (nL := M.2.2.2.1) (Ts := mws M) (own := M.1) (host := "LaundrySky") ⟨C.1, C.2.1, C.2.2.2.1, C.own, C.2.2.2.2.2.1⟩ hM ⟨va_cnB (ws' := lg) ps C.2.2.2.2.2.1 (good_mws hc.1) rfl rfl rfl hnw (C.w hc.2.1) hc.2.2.1 ⟨Nat.le_trans hdd hR.1, by have h1 : mL ≤ 13 := hc.2.2.2; have := hR.2.1; show 8 + (mL + 11) + 32 * d' ≤ R.locals; omega⟩, hy, C.w hi⟩ ⟨ci_blind, fun U hU hW2 => ⟨rfl, C.ku.mv hS hU hW2, C.ao.moved hW2.alike, by rw [hU]; exact hsz, by rw [hU]; exact hP⟩⟩ rfl hn hl.1 rfl (lv_room hW) hd ⟨Nat.le_trans hz1 hR.2.2.1, Nat.le_trans hz2 hR.2.2.2⟩
end RNT
