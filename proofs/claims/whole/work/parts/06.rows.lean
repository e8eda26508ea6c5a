def wnm : List String := ["LINE", "PEGS", "PLACE", "UNDER", "CLOTH", "WET", "CROSSES", "DRIES", "HANG", "TAKE", "WASH", "HOUR", "SHEET", "SHIRTS", "SKIRT", "SOCK", "NOT", "AND", "OR", "DAMP", "LOOSE", "SUN", "CLOCK"]
def wgr : List Int32 := [0, 0, 0, 0, 0, 0, 0, 0, 0, 0, 0, 0, 1, 1, 1, 1, 0, 0, 0, 2, 2, 2, 2]
def wva : List Int32 := [0, 0, 0, 0, 0, 0, 0, 0, 0, 0, 0, 0, 0, 1, 2, 3, 0, 0, 0, (-1), (-2), (-3), (-4)]
def sln : List Nat := [4, 4, 5, 5, 5, 3, 7, 5, 4, 4, 4, 4, 5, 5, 5, 4, 3, 3, 2, 4, 5, 3, 5, 8]
def sby : List (List Int32) := [[108, 105, 110, 101], [112, 101, 103, 115], [112, 108, 97, 99, 101], [117, 110, 100, 101, 114], [99, 108, 111, 116, 104], [119, 101, 116], [99, 114, 111, 115, 115, 101, 115], [100, 114, 105, 101, 115], [104, 97, 110, 103], [116, 97, 107, 101], [119, 97, 115, 104], [104, 111, 117, 114], [115, 104, 101, 101, 116], [115, 104, 105, 114, 116], [115, 107, 105, 114, 116], [115, 111, 99, 107], [110, 111, 116], [97, 110, 100], [111, 114], [100, 97, 109, 112], [108, 111, 111, 115, 101], [115, 117, 110], [99, 108, 111, 99, 107], [40, 41, 60, 61, 43, 45, 42, 59]]
/-! ===== what stands from the start, and never changes ===== -/
abbrev eW : String := "LaundrySky$Word"
abbrev dW : String := "LLaundrySky$Word;"
def nwF : List (String × Nat × String × String × String) := [("LaundrySky$Tape", 71, "LaundrySky$Word", "ALL", "[LLaundrySky$Word;"), ("LaundrySky$Sky", 93, "LaundrySky", "RANKS", "[I"), ("LaundrySky$Wishes", 116, "LaundrySky", "RANKS", "[I")]
def nwM : List (String × Nat × MethodName) := [("LaundrySky", 9, ⟨"LaundrySky$Tape", "<init>", "()V"⟩), ("LaundrySky", 18, ⟨"LaundrySky$Town", "<init>", "()V"⟩), ("LaundrySky$Town", 39, ⟨"LaundrySky$Law", "<init>", "()V"⟩), ("LaundrySky$TownReader", 11, ⟨"LaundrySky$Town", "<init>", "()V"⟩), ("LaundrySky", 34, ⟨"LaundrySky$Plan", "<init>", "()V"⟩), ("LaundrySky$TownReader", 193, ⟨"LaundrySky$Law", "readWhole", "(LLaundrySky$Tape;I)V"⟩)]
def KS (K : KK) (U : State) : Prop :=
  va_En eW dW wnm [(eW, "group", "I", wgr), (eW, "value", "I", wva)] K.2.2.2 (AA K) U U.heap ∧
  va_Ef 23 eW "text" "Ljava/lang/String;" (fun i => .ref (K.2.2.2 (100 + i))) K.2.2.2 (AA K) U U.heap ∧
  vk_S 24 sln sby (fun i => K.2.2.2 (100 + i)) (fun i => K.2.2.2 (200 + i)) (AA K) U U.heap ∧
  va_Z "LaundrySky" "RANKS" "[I" (.ref (K.2.2.2 300)) (AA K) U U.heap ∧
  va_T .int (K.2.2.2 300) 4 (fun j => .int (([2, 3, 0, 1] : List Int32).getD j 0)) (AA K) U U.heap ∧
  va_Z eW "ALL" "[LLaundrySky$Word;" (.ref (K.2.2.2 301)) (AA K) U U.heap ∧
  va_T (.object eW) (K.2.2.2 301) 23 (fun j => .ref (K.2.2.2 j)) (AA K) U U.heap ∧
  vk_R "LaundrySky$Tape" 61 "()<=+-*;" (K.2.2.2 123) U ∧
  va_Z "java/lang/String" "COMPACT_STRINGS" "Z" (.int 1) (AA K) U U.heap ∧
  (va_Zq "jdk/internal/util/Preconditions" "SIOOBE_FORMATTER" "Ljava/util/function/BiFunction;" (AA K) U U.heap ∧ vx_Zq Bundle.tN "UNASSIGNED_STACK" Bundle.steD (AA K) U U.heap ∧ vx_Zq Bundle.tN "SUPPRESSED_SENTINEL" Bundle.listD (AA K) U U.heap) ∧
  (∀ q ∈ nwF, va_Nw (.fieldLinkNest q.1 q.2.1 q.2.2.1 q.2.2.2.1 q.2.2.2.2 "LaundrySky") U) ∧
  (∀ q ∈ nwM, va_Nw (.methodLinkNest q.1 q.2.1 q.2.2 "LaundrySky") U)
def KU (K : KK) (U : State) : Prop := va_K K.1 cl0 (tys K) U ∧ KS K U
theorem KU.mv {K : KK} {s U : State} {H : Heap} {locs : List Loc} (h : KU K s) (hS : va_S (AA K) s.heap H locs) (hU : U.heap = H) (hW : s.WarmedH U.vm) : KU K U := by
  have ha : s.vm.Alike U.vm := hW.alike
  have hq : ∀ a : Nat, a < s.heap.size → ¬ AA K a → U.heap[a]? = s.heap[a]? := fun a h1 h2 => by rw [hU]; exact hS.2.1 a h1 h2
  obtain ⟨h0, h1, h2, h3, h4, h5, h6, h7, h8, h9, h10, h11, h12⟩ := h
  exact ⟨va_K.moved ha h0, (h1.moved ha).kept hq, (h2.moved ha).kept hq, (h3.moved ha).kept hq, (h4.moved ha).kept hq, (h5.moved ha).kept hq, (h6.moved ha).kept hq, (h7.moved ha).kept hq, vk_R.warm hW h8, (h9.moved ha).kept hq, ⟨(h10.1.moved ha).kept hq, (h10.2.1.moved ha).kept hq, (h10.2.2.moved ha).kept hq⟩, fun q hq2 => va_Nw.warmF hW (h11 q hq2), fun q hq2 => va_Nw.warmM hW (h12 q hq2)⟩
theorem KU.calling {K : KK} {U : State} {g : JFrame} {mk : MethodId} {a : Array Value} (h : KU K U) : KU K (U.calling g mk a) := by
  have ha : U.vm.Alike (U.calling g mk a).vm := Vm.Alike.refl U.vm
  obtain ⟨h0, h1, h2, h3, h4, h5, h6, h7, h8, h9, h10, h11, h12⟩ := h
  exact ⟨va_K.moved ha h0, h1.moved ha, h2.moved ha, h3.moved ha, h4.moved ha, h5.moved ha, h6.moved ha, h7.moved ha, vk_R.same (u := U) rfl h8, h9.moved ha, ⟨h10.1.moved ha, h10.2.1.moved ha, h10.2.2.moved ha⟩, fun q hq2 => va_Nw.same rfl rfl (h11 q hq2), fun q hq2 => va_Nw.same rfl rfl (h12 q hq2)⟩
/-! ===== the judgements ===== -/
/-- a method: its class, its name, its bytes, its locals, what it returns -/
abbrev MI : Type := String × MethodName × ByteArray × Nat × Option FieldType
def mws (M : MI) : List Cond := .code M.2.1 M.2.2.1 M.2.2.2.1 M.2.2.2.2 :: lg
def rmd (d : Nat) : Room := { frames := d, cells := 0, slots := 0, locals := 32 * d }
/-- cells and slots made so far; the end -/
abbrev ZZ : Type := Nat × Nat × (Room → List Frame → Array Value → State → (Option Value → MM → Prop) → State → Prop)
def CX (K : KK) (n d : Nat) (M : MI) (Z : ZZ) (p : Program) (R : Room) (s : State) (m : MethodId) (args : Array Value) (meth : Method) (c : Code) : Prop :=
  p.tables.exec = Jvm.exec ∧ c.code = M.2.2.1 ∧ meth.sig.returnType = M.2.2.2.2 ∧ c.maxLocals = M.2.2.2.1 ∧ s.vm.findClass M.1 = some m.cls ∧ (∀ w ∈ mws M, w.before args s = true) ∧ meth.locks = false ∧ KU K s ∧ (d ≤ R.frames ∧ 32 * d ≤ R.locals ∧ Z.1 ≤ R.cells ∧ Z.2.1 ≤ R.slots) ∧ 270 ≤ n
def QC (K : KK) (n : Nat) (Q : Option Value → MM → Prop) : Array Value → State → Outcome → State → Prop := fun _ st o t => (∃ (v : Option Value) (σ' : MM), o = .returned v ∧ Q v σ' ∧ va_P K.1 cl0 (wl K n σ') t.heap) ∧ va_F (AA K) st t
def Z0 (K : KK) (n : Nat) : ZZ := (0, 0, fun _ below args s Q => MQ below (QC K n Q) args s 0 0 (AA K))
def RW (l : Launch) (K : KK) (n d : Nat) (M : MI) (Z : ZZ) (pc : Nat) (lv : List (Nat × Value)) (st : List Value) (σ : MM) (Q : Option Value → MM → Prop) : Prop :=
  ∀ (p : Program) (e : Env) (R : Room) (s : State) (m : MethodId) (args : Array Value) (below : List Frame) (meth : Method) (c : Code), CX K n d M Z p R s m args meth c → ∀ (H : Heap) (locs : List Loc) (ls : Array Slot), va_P K.1 cl0 (wl K n σ) H → va_S (AA K) s.heap H locs → lv_has ls M.2.2.2.1 lv → W p l e R s m args below meth c H locs Z.1 Z.2.1 (Z.2.2 R below args s Q) (F0 m pc ls st)
/-- at pc, with such locals and such a stack, the machine does what t does -/
def RP {ρ : Type} (l : Launch) (K : KK) (n d : Nat) (M : MI) (Z : ZZ) (pc : Nat) (lv : List (Nat × Value)) (st : List Value) (en : ρ → Option Value) (t : PP ρ) : Prop :=
  ∀ (σ : MM) (r : ρ) (σ' : MM), t σ = some (r, σ') → RW l K n d M Z pc lv st σ (fun v σ2 => v = en r ∧ σ2 = σ')
/-- a method does what t does -/
def CT {ρ : Type} (l : Launch) (K : KK) (n d : Nat) (M : MI) (av : List Value) (en : ρ → Option Value) (t : PP ρ) : Prop :=
  ∀ (σ : MM) (r : ρ) (σ' : MM), t σ = some (r, σ') → Met l M.2.1 (mws M) (rmd d) (va_Pc av (fun U => KU K U ∧ va_P K.1 cl0 (wl K n σ) U.heap)) (QC K n (fun v σ2 => v = en r ∧ σ2 = σ')) 0 0 (AA K)
section RPS
variable {ρ : Type} {l : Launch} {K : KK} {n d : Nat} {M : MI} {Z : ZZ} {pc : Nat} {lv : List (Nat × Value)} {st : List Value} {en : ρ → Option Value}
theorem CT.of {t : PP ρ} {av : List Value} (hy : plainName M.2.1.cls = true) (ho : M.1 = M.2.1.cls) (hn : 270 ≤ n) (hL : (lg_sl av).length ≤ M.2.2.2.1) (h : RP l K n d M (Z0 K n) 0 (lv_args 0 av) [] en t) : CT l K n d M av en t := by
  intro σ r σ' ht
  refine Met.ofW (cc := M.2.2.1) (maxL := M.2.2.2.1) (ret := M.2.2.2.2) hy rfl ?_
  intro p e s m args below meth c s₁ B hml hv
  obtain ⟨rfl, hU, hP⟩ := hv
  have hts := atoms_spec (ws := mws M) B.pre
  have hown : s.vm.findClass M.2.1.cls = some m.cls := findClass_of_methodNamed B.named
  have hl := lv_entry av (n := M.2.2.2.1) hL
  rw [lg_entry_eq]
  exact h σ r σ' ht p e (rmd d) s m _ below meth c ⟨B.exec, B.bytes, B.returns, hml, by rw [ho]; exact hown, hts, B.notSynchronized, hU, ⟨Nat.le_refl _, Nat.le_refl _, Nat.le_refl _, Nat.le_refl _⟩, hn⟩ s.heap [] _ hP va_S.rf hl
/-- a row that leaves memory and locals -/
theorem RP.go {t : PP ρ} {pc2 : Nat} {st2 : List Value} (f : ∀ (p : Program) (e : Env) (R : Room) (s : State) (m : MethodId) (args : Array Value) (below : List Frame) (meth : Method) (c : Code) (H : Heap) (locs : List Loc) (ls : Array Slot) (Q : State → Prop), CX K n d M Z p R s m args meth c → lv_has ls M.2.2.2.1 lv → W p l e R s m args below meth c H locs Z.1 Z.2.1 Q (F0 m pc2 ls st2) → W p l e R s m args below meth c H locs Z.1 Z.2.1 Q (F0 m pc ls st)) (k : RP l K n d M Z pc2 lv st2 en t) : RP l K n d M Z pc lv st en t := by
  intro σ r σ' h p e R s m args below meth c C H locs ls hP hS hl
  exact f p e R s m args below meth c H locs ls _ C hl (k σ r σ' h p e R s m args below meth c C H locs ls hP hS hl)
/-- a row that leaves memory -/
theorem RP.gol {t : PP ρ} {pc2 : Nat} {st2 : List Value} {lv2 : List (Nat × Value)} (f : ∀ (p : Program) (e : Env) (R : Room) (s : State) (m : MethodId) (args : Array Value) (below : List Frame) (meth : Method) (c : Code) (H : Heap) (locs : List Loc) (ls : Array Slot) (Q : State → Prop), CX K n d M Z p R s m args meth c → lv_has ls M.2.2.2.1 lv → (∀ ls2, lv_has ls2 M.2.2.2.1 lv2 → W p l e R s m args below meth c H locs Z.1 Z.2.1 Q (F0 m pc2 ls2 st2)) → W p l e R s m args below meth c H locs Z.1 Z.2.1 Q (F0 m pc ls st)) (k : RP l K n d M Z pc2 lv2 st2 en t) : RP l K n d M Z pc lv st en t := by
  intro σ r σ' h p e R s m args below meth c C H locs ls hP hS hl
  exact f p e R s m args below meth c H locs ls _ C hl (fun ls2 hl2 => k σ r σ' h p e R s m args below meth c C H locs ls2 hP hS hl2)
theorem rp_sub {t : PP ρ} {lv2 : List (Nat × Value)} (ks : List Nat) (h : lv_pick lv ks = lv2) (k : RP l K n d M Z pc lv2 st en t) : RP l K n d M Z pc lv st en t := RP.gol (fun p e R s m args below meth c H locs ls Q C hl w => w ls (lv_sub hl ks h)) k
theorem rp_id {t : PP ρ} (k : RP l K n d M Z pc lv st en (bd t pu)) : RP l K n d M Z pc lv st en t := by rw [bd_pu] at k; exact k
theorem rp_as {α β : Type} {a : PP α} {f : α → PP β} {k : β → PP ρ} (h : RP l K n d M Z pc lv st en (bd a (fun x => bd (f x) k))) : RP l K n d M Z pc lv st en (bd (bd a f) k) := by rw [bd_as]; exact h
theorem rp_pu {α : Type} {a : α} {k : α → PP ρ} (h : RP l K n d M Z pc lv st en (k a)) : RP l K n d M Z pc lv st en (bd (pu a) k) := h
theorem rp_lti {α : Type} {x : Int32} {f : Int32 → PP α} {k : α → PP ρ} (h : ∀ y, RP l K n d M Z pc lv (.int y :: st) en (bd (f y) k)) : RP l K n d M Z pc lv (.int x :: st) en (bd (lt x f) k) := h x
theorem rp_ltl {α : Type} {x : Int64} {f : Int64 → PP α} {k : α → PP ρ} (h : ∀ y, RP l K n d M Z pc lv (.long y :: st) en (bd (f y) k)) : RP l K n d M Z pc lv (.long x :: st) en (bd (lt x f) k) := h x
theorem rp_join {α : Type} {r : PP α} {k : α → PP ρ} (pJ : Nat) (lvJ : α → List (Nat × Value)) (stJ : α → List Value) (hk : ∀ v, RP l K n d M Z pJ (lvJ v) (stJ v) en (k v)) (hr : (∀ v, RP l K n d M Z pJ (lvJ v) (stJ v) en (k v)) → RP l K n d M Z pc lv st en (bd r k)) : RP l K n d M Z pc lv st en (bd r k) := hr hk
theorem rp_jn {α β γ : Type} {f : α → PP γ} {body : (α → PP γ) → PP β} {k : β → PP ρ} (h : RP l K n d M Z pc lv st en (bd (body f) k)) : RP l K n d M Z pc lv st en (bd (jn f body) k) := h
theorem rp_it {α β : Type} {body : α → PP (α ⊕ β)} {k : β → PP ρ} (lvJ : α → List (Nat × Value)) (h : ∀ N, (∀ a, RP l K n d M Z pc (lvJ a) st en (bd (pu (Sum.inl a)) (Sum.elim (fun x => bd (it body N x) k) k))) → ∀ a, RP l K n d M Z pc (lvJ a) st en (bd (body a) (Sum.elim (fun x => bd (it body N x) k) k))) : ∀ (N : Nat) (a : α), RP l K n d M Z pc (lvJ a) st en (bd (it body N a) k) := by
  intro N
  induction N with
  | zero =>
    intro a σ r σ' e
    cases e
  | succ N ih =>
    intro a
    have e : bd (it body (N + 1) a) k = bd (body a) (Sum.elim (fun x => bd (it body N x) k) k) := by
      show bd (bd (body a) (Sum.elim (it body N) pu)) k = _
      rw [bd_as]
      congr 1
      funext x
      cases x <;> rfl
    rw [e]
    exact h N ih a
/-! ===== constants, locals, stack ===== -/
theorem rp_iconst {t : PP ρ} {i : Int} (v : Int32) (hd : decode M.2.2.1 pc = .ok (.iconst i, 1)) (hv : Int32.ofInt i = v) (k : RP l K n d M Z (pc + 1) lv (.int v :: st) en t) : RP l K n d M Z pc lv st en t := RP.go (fun p e R s m args below meth c H locs ls Q C hl w => lv_iconst C.1 C.2.1 hd hv w) k
theorem rp_bipush {t : PP ρ} {i : Int} (v : Int32) (hd : decode M.2.2.1 pc = .ok (.bipush i, 2)) (hv : (Int8.ofInt i).toInt32 = v) (k : RP l K n d M Z (pc + 2) lv (.int v :: st) en t) : RP l K n d M Z pc lv st en t := RP.go (fun p e R s m args below meth c H locs ls Q C hl w => lv_bipush C.1 C.2.1 hd hv w) k
theorem rp_sipush {t : PP ρ} {i : Int} (v : Int32) (hd : decode M.2.2.1 pc = .ok (.sipush i, 3)) (hv : (Int16.ofInt i).toInt32 = v) (k : RP l K n d M Z (pc + 3) lv (.int v :: st) en t) : RP l K n d M Z pc lv st en t := RP.go (fun p e R s m args below meth c H locs ls Q C hl w => lv_sipush C.1 C.2.1 hd hv w) k
theorem rp_lconst {t : PP ρ} {i : Fin 2} (v : Int64) (hd : decode M.2.2.1 pc = .ok (.lconst i, 1)) (hv : Int64.ofNat (i : Nat) = v) (k : RP l K n d M Z (pc + 1) lv (.long v :: st) en t) : RP l K n d M Z pc lv st en t := RP.go (fun p e R s m args below meth c H locs ls Q C hl w => lv_lconst C.1 C.2.1 hd hv w) k
theorem rp_ldc {t : PP ρ} {i : Nat} {v : Int32} (hw : Cond.constant M.1 i v ∈ lg) (hd : decode M.2.2.1 pc = .ok (.ldc i, 2)) (k : RP l K n d M Z (pc + 2) lv (.int v :: st) en t) : RP l K n d M Z pc lv st en t := RP.go (fun p e R s m args below meth c H locs ls Q C hl w => lv_ldc C.1 C.2.1 C.2.2.2.2.1 (C.2.2.2.2.2.1 _ (List.mem_cons_of_mem _ hw)) hd w) k
theorem rp_ldcw {t : PP ρ} {i : Nat} {v : Int32} (hw : Cond.constant M.1 i v ∈ lg) (hd : decode M.2.2.1 pc = .ok (.ldc_w i, 3)) (k : RP l K n d M Z (pc + 3) lv (.int v :: st) en t) : RP l K n d M Z pc lv st en t := RP.go (fun p e R s m args below meth c H locs ls Q C hl w => lv_ldcw C.1 C.2.1 C.2.2.2.2.1 (C.2.2.2.2.2.1 _ (List.mem_cons_of_mem _ hw)) hd w) k
theorem rp_ldc2 {t : PP ρ} {i : Nat} {v : Int64} (hw : Cond.constantLong M.1 i v ∈ lg) (hd : decode M.2.2.1 pc = .ok (.ldc2_w i, 3)) (k : RP l K n d M Z (pc + 3) lv (.long v :: st) en t) : RP l K n d M Z pc lv st en t := RP.go (fun p e R s m args below meth c H locs ls Q C hl w => lv_ldc2 C.1 C.2.1 C.2.2.2.2.1 (C.2.2.2.2.2.1 _ (List.mem_cons_of_mem _ hw)) hd w) k
theorem rp_iload {t : PP ρ} {i : Nat} {x : Int32} (j : Nat) (hd : decode M.2.2.1 pc = .ok (.iload i, 2)) (hj : lv[j]? = some (i, .int x)) (k : RP l K n d M Z (pc + 2) lv (.int x :: st) en t) : RP l K n d M Z pc lv st en t := RP.go (fun p e R s m args below meth c H locs ls Q C hl w => lv_iload C.1 C.2.1 hd (lv_at hl j hj) w) k
theorem rp_iload_n {t : PP ρ} {i : Fin 4} {x : Int32} (j : Nat) (hd : decode M.2.2.1 pc = .ok (.iload_n i, 1)) (hj : lv[j]? = some (i.val, .int x)) (k : RP l K n d M Z (pc + 1) lv (.int x :: st) en t) : RP l K n d M Z pc lv st en t := RP.go (fun p e R s m args below meth c H locs ls Q C hl w => lv_iload_n C.1 C.2.1 hd rfl (lv_at hl j hj) w) k
theorem rp_lload {t : PP ρ} {i : Nat} {x : Int64} (j : Nat) (hd : decode M.2.2.1 pc = .ok (.lload i, 2)) (hj : lv[j]? = some (i, .long x)) (k : RP l K n d M Z (pc + 2) lv (.long x :: st) en t) : RP l K n d M Z pc lv st en t := RP.go (fun p e R s m args below meth c H locs ls Q C hl w => lv_lload C.1 C.2.1 hd (lv_at hl j hj) w) k
theorem rp_lload_n {t : PP ρ} {i : Fin 4} {x : Int64} (j : Nat) (hd : decode M.2.2.1 pc = .ok (.lload_n i, 1)) (hj : lv[j]? = some (i.val, .long x)) (k : RP l K n d M Z (pc + 1) lv (.long x :: st) en t) : RP l K n d M Z pc lv st en t := RP.go (fun p e R s m args below meth c H locs ls Q C hl w => lv_lload_n C.1 C.2.1 hd rfl (lv_at hl j hj) w) k
theorem rp_aload {t : PP ρ} {i : Nat} {x : Nat} (j : Nat) (hd : decode M.2.2.1 pc = .ok (.aload i, 2)) (hj : lv[j]? = some (i, .ref x)) (k : RP l K n d M Z (pc + 2) lv (.ref x :: st) en t) : RP l K n d M Z pc lv st en t := RP.go (fun p e R s m args below meth c H locs ls Q C hl w => lv_aload C.1 C.2.1 hd (lv_at hl j hj) w) k
theorem rp_aload_n {t : PP ρ} {i : Fin 4} {x : Nat} (j : Nat) (hd : decode M.2.2.1 pc = .ok (.aload_n i, 1)) (hj : lv[j]? = some (i.val, .ref x)) (k : RP l K n d M Z (pc + 1) lv (.ref x :: st) en t) : RP l K n d M Z pc lv st en t := RP.go (fun p e R s m args below meth c H locs ls Q C hl w => lv_aload_n C.1 C.2.1 hd rfl (lv_at hl j hj) w) k
theorem rp_wload_n {t : PP ρ} {i : Fin 4} {x : Option (Fin 23)} (j : Nat) (hd : decode M.2.2.1 pc = .ok (.aload_n i, 1)) (hj : lv[j]? = some (i.val, wr K x)) (k : RP l K n d M Z (pc + 1) lv (wr K x :: st) en t) : RP l K n d M Z pc lv st en t := by
  cases x with
  | none => exact RP.go (fun p e R s m args below meth c H locs ls Q C hl w => lv_aload_nN C.1 C.2.1 hd rfl (lv_at hl j hj) w) k
  | some y => exact RP.go (fun p e R s m args below meth c H locs ls Q C hl w => lv_aload_n C.1 C.2.1 hd rfl (lv_at hl j hj) w) k
theorem rp_istore {t : PP ρ} {i : Nat} {x : Int32} (lv2 : List (Nat × Value)) (hd : decode M.2.2.1 pc = .ok (.istore i, 2)) (hn : i < M.2.2.2.1) (hl2 : (i, Value.int x) :: lv.filter (fun q => !(q.1 == i) && !(q.1 + 1 == i && q.2.category == 2)) = lv2) (k : RP l K n d M Z (pc + 2) lv2 st en t) : RP l K n d M Z pc lv (.int x :: st) en t := RP.gol (fun p e R s m args below meth c H locs ls Q C hl w => lv_istore C.1 C.2.1 hd hl hn hl2 w) k
theorem rp_istore_n {t : PP ρ} {i : Fin 4} {x : Int32} (lv2 : List (Nat × Value)) (hd : decode M.2.2.1 pc = .ok (.istore_n i, 1)) (hn : i.val < M.2.2.2.1) (hl2 : (i.val, Value.int x) :: lv.filter (fun q => !(q.1 == i.val) && !(q.1 + 1 == i.val && q.2.category == 2)) = lv2) (k : RP l K n d M Z (pc + 1) lv2 st en t) : RP l K n d M Z pc lv (.int x :: st) en t := RP.gol (fun p e R s m args below meth c H locs ls Q C hl w => lv_istore_n C.1 C.2.1 hd rfl hl hn hl2 w) k
theorem rp_lstore {t : PP ρ} {i : Nat} {x : Int64} (lv2 : List (Nat × Value)) (hd : decode M.2.2.1 pc = .ok (.lstore i, 2)) (hn : i + 1 < M.2.2.2.1) (hl2 : (i, Value.long x) :: lv.filter (fun q => !(q.1 == i) && (!(q.1 == i + 1) && !(q.1 + 1 == i && q.2.category == 2))) = lv2) (k : RP l K n d M Z (pc + 2) lv2 st en t) : RP l K n d M Z pc lv (.long x :: st) en t := RP.gol (fun p e R s m args below meth c H locs ls Q C hl w => lv_lstore C.1 C.2.1 hd hl hn hl2 w) k
theorem rp_lstore_n {t : PP ρ} {i : Fin 4} {x : Int64} (lv2 : List (Nat × Value)) (hd : decode M.2.2.1 pc = .ok (.lstore_n i, 1)) (hn : i.val + 1 < M.2.2.2.1) (hl2 : (i.val, Value.long x) :: lv.filter (fun q => !(q.1 == i.val) && (!(q.1 == i.val + 1) && !(q.1 + 1 == i.val && q.2.category == 2))) = lv2) (k : RP l K n d M Z (pc + 1) lv2 st en t) : RP l K n d M Z pc lv (.long x :: st) en t := RP.gol (fun p e R s m args below meth c H locs ls Q C hl w => lv_lstore_n C.1 C.2.1 hd rfl hl hn hl2 w) k
theorem rp_astore {t : PP ρ} {i : Nat} {x : Nat} (lv2 : List (Nat × Value)) (hd : decode M.2.2.1 pc = .ok (.astore i, 2)) (hn : i < M.2.2.2.1) (hl2 : (i, Value.ref x) :: lv.filter (fun q => !(q.1 == i) && !(q.1 + 1 == i && q.2.category == 2)) = lv2) (k : RP l K n d M Z (pc + 2) lv2 st en t) : RP l K n d M Z pc lv (.ref x :: st) en t := RP.gol (fun p e R s m args below meth c H locs ls Q C hl w => lv_astore C.1 C.2.1 hd hl hn hl2 w) k
theorem rp_astore_n {t : PP ρ} {i : Fin 4} {x : Nat} (lv2 : List (Nat × Value)) (hd : decode M.2.2.1 pc = .ok (.astore_n i, 1)) (hn : i.val < M.2.2.2.1) (hl2 : (i.val, Value.ref x) :: lv.filter (fun q => !(q.1 == i.val) && !(q.1 + 1 == i.val && q.2.category == 2)) = lv2) (k : RP l K n d M Z (pc + 1) lv2 st en t) : RP l K n d M Z pc lv (.ref x :: st) en t := RP.gol (fun p e R s m args below meth c H locs ls Q C hl w => lv_astore_n C.1 C.2.1 hd rfl hl hn hl2 w) k
theorem rp_wstore_n {t : PP ρ} {i : Fin 4} {x : Option (Fin 23)} (lv2 : List (Nat × Value)) (hd : decode M.2.2.1 pc = .ok (.astore_n i, 1)) (hn : i.val < M.2.2.2.1) (hl2 : (i.val, wr K x) :: lv.filter (fun q => !(q.1 == i.val) && !(q.1 + 1 == i.val && q.2.category == 2)) = lv2) (k : RP l K n d M Z (pc + 1) lv2 st en t) : RP l K n d M Z pc lv (wr K x :: st) en t := by
  cases x with
  | none => exact RP.gol (fun p e R s m args below meth c H locs ls Q C hl w => lv_astore_nN C.1 C.2.1 hd rfl hl hn hl2 w) k
  | some y => exact RP.gol (fun p e R s m args below meth c H locs ls Q C hl w => lv_astore_n C.1 C.2.1 hd rfl hl hn hl2 w) k
/-- iinc: the new number gets a name -/
theorem rp_iinc {α : Type} {f : Int32 → PP α} {k : α → PP ρ} {i : Nat} {z : Int} {x x2 : Int32} (lvJ : Int32 → List (Nat × Value)) (j : Nat) (hd : decode M.2.2.1 pc = .ok (.iinc i z, 3)) (hj : lv[j]? = some (i, .int x)) (hz : x + Int32.ofInt z = x2) (hn : i < M.2.2.2.1) (hl2 : ∀ y, (i, Value.int y) :: lv.filter (fun q => !(q.1 == i) && !(q.1 + 1 == i && q.2.category == 2)) = lvJ y) (h : ∀ y, RP l K n d M Z (pc + 3) (lvJ y) st en (bd (f y) k)) : RP l K n d M Z pc lv st en (bd (lt x2 f) k) := RP.gol (fun p e R s m args below meth c H locs ls Q C hl w => lv_iinc C.1 C.2.1 hd hl hj hz hn (hl2 x2) w) (h x2)
theorem rp_dup {t : PP ρ} {v : Value} (hd : decode M.2.2.1 pc = .ok (.dup, 1)) (hv : v.category = 1) (k : RP l K n d M Z (pc + 1) lv (v :: v :: st) en t) : RP l K n d M Z pc lv (v :: st) en t := RP.go (fun p e R s m args below meth c H locs ls Q C hl w => lv_dup C.1 C.2.1 hd hv w) k
theorem rp_dup2 {t : PP ρ} {v u : Value} (hd : decode M.2.2.1 pc = .ok (.dup2, 1)) (hv : v.category = 1) (hu : u.category = 1) (k : RP l K n d M Z (pc + 1) lv (v :: u :: v :: u :: st) en t) : RP l K n d M Z pc lv (v :: u :: st) en t := RP.go (fun p e R s m args below meth c H locs ls Q C hl w => lv_dup2_11 C.1 C.2.1 hd hv hu w) k
theorem rp_pop {t : PP ρ} {v : Value} (hd : decode M.2.2.1 pc = .ok (.pop, 1)) (hv : v.category = 1) (k : RP l K n d M Z (pc + 1) lv st en t) : RP l K n d M Z pc lv (v :: st) en t := RP.go (fun p e R s m args below meth c H locs ls Q C hl w => lv_pop C.1 C.2.1 hd hv w) k
theorem rp_null {t : PP ρ} (hd : decode M.2.2.1 pc = .ok (.aconst_null, 1)) (k : RP l K n d M Z (pc + 1) lv (wr K none :: st) en t) : RP l K n d M Z pc lv st en t := RP.go (fun p e R s m args below meth c H locs ls Q C hl w => lv_null C.1 C.2.1 hd w) k
theorem rp_goto {t : PP ρ} {off : Int} (tgt : Nat) (hd : decode M.2.2.1 pc = .ok (.goto off, 3)) (ht : (pc : Int) + off = (tgt : Int)) (k : RP l K n d M Z tgt lv st en t) : RP l K n d M Z pc lv st en t := RP.go (fun p e R s m args below meth c H locs ls Q C hl w => lv_goto C.1 C.2.1 hd ht w) k
theorem rp_iadd {t : PP ρ} {x y : Int32} (hd : decode M.2.2.1 pc = .ok (.iadd, 1)) (k : RP l K n d M Z (pc + 1) lv (.int (x + y) :: st) en t) : RP l K n d M Z pc lv (.int y :: .int x :: st) en t := RP.go (fun p e R s m args below meth c H locs ls Q C hl w => lv_iadd C.1 C.2.1 hd w) k
theorem rp_isub {t : PP ρ} {x y : Int32} (hd : decode M.2.2.1 pc = .ok (.isub, 1)) (k : RP l K n d M Z (pc + 1) lv (.int (x - y) :: st) en t) : RP l K n d M Z pc lv (.int y :: .int x :: st) en t := RP.go (fun p e R s m args below meth c H locs ls Q C hl w => lv_isub C.1 C.2.1 hd w) k
theorem rp_imul {t : PP ρ} {x y : Int32} (hd : decode M.2.2.1 pc = .ok (.imul, 1)) (k : RP l K n d M Z (pc + 1) lv (.int (x * y) :: st) en t) : RP l K n d M Z pc lv (.int y :: .int x :: st) en t := RP.go (fun p e R s m args below meth c H locs ls Q C hl w => lv_imul C.1 C.2.1 hd w) k
theorem rp_iand {t : PP ρ} {x y : Int32} (hd : decode M.2.2.1 pc = .ok (.iand, 1)) (k : RP l K n d M Z (pc + 1) lv (.int (x &&& y) :: st) en t) : RP l K n d M Z pc lv (.int y :: .int x :: st) en t := RP.go (fun p e R s m args below meth c H locs ls Q C hl w => lv_iand C.1 C.2.1 hd w) k
theorem rp_ior {t : PP ρ} {x y : Int32} (hd : decode M.2.2.1 pc = .ok (.ior, 1)) (k : RP l K n d M Z (pc + 1) lv (.int (x ||| y) :: st) en t) : RP l K n d M Z pc lv (.int y :: .int x :: st) en t := RP.go (fun p e R s m args below meth c H locs ls Q C hl w => lv_ior C.1 C.2.1 hd w) k
theorem rp_ixor {t : PP ρ} {x y : Int32} (hd : decode M.2.2.1 pc = .ok (.ixor, 1)) (k : RP l K n d M Z (pc + 1) lv (.int (x ^^^ y) :: st) en t) : RP l K n d M Z pc lv (.int y :: .int x :: st) en t := RP.go (fun p e R s m args below meth c H locs ls Q C hl w => lv_ixor C.1 C.2.1 hd w) k
theorem rp_ishl {t : PP ρ} {x y : Int32} (hd : decode M.2.2.1 pc = .ok (.ishl, 1)) (k : RP l K n d M Z (pc + 1) lv (.int (x <<< (y &&& 31)) :: st) en t) : RP l K n d M Z pc lv (.int y :: .int x :: st) en t := RP.go (fun p e R s m args below meth c H locs ls Q C hl w => lv_ishl C.1 C.2.1 hd w) k
theorem rp_ishr {t : PP ρ} {x y : Int32} (hd : decode M.2.2.1 pc = .ok (.ishr, 1)) (k : RP l K n d M Z (pc + 1) lv (.int (x >>> (y &&& 31)) :: st) en t) : RP l K n d M Z pc lv (.int y :: .int x :: st) en t := RP.go (fun p e R s m args below meth c H locs ls Q C hl w => lv_ishr C.1 C.2.1 hd w) k
theorem rp_ladd {t : PP ρ} {x y : Int64} (hd : decode M.2.2.1 pc = .ok (.ladd, 1)) (k : RP l K n d M Z (pc + 1) lv (.long (x + y) :: st) en t) : RP l K n d M Z pc lv (.long y :: .long x :: st) en t := RP.go (fun p e R s m args below meth c H locs ls Q C hl w => lv_ladd C.1 C.2.1 hd w) k
theorem rp_lsub {t : PP ρ} {x y : Int64} (hd : decode M.2.2.1 pc = .ok (.lsub, 1)) (k : RP l K n d M Z (pc + 1) lv (.long (x - y) :: st) en t) : RP l K n d M Z pc lv (.long y :: .long x :: st) en t := RP.go (fun p e R s m args below meth c H locs ls Q C hl w => lv_lsub C.1 C.2.1 hd w) k
theorem rp_lmul {t : PP ρ} {x y : Int64} (hd : decode M.2.2.1 pc = .ok (.lmul, 1)) (k : RP l K n d M Z (pc + 1) lv (.long (x * y) :: st) en t) : RP l K n d M Z pc lv (.long y :: .long x :: st) en t := RP.go (fun p e R s m args below meth c H locs ls Q C hl w => lv_lmul C.1 C.2.1 hd w) k
theorem rp_land {t : PP ρ} {x y : Int64} (hd : decode M.2.2.1 pc = .ok (.land, 1)) (k : RP l K n d M Z (pc + 1) lv (.long (x &&& y) :: st) en t) : RP l K n d M Z pc lv (.long y :: .long x :: st) en t := RP.go (fun p e R s m args below meth c H locs ls Q C hl w => lv_land C.1 C.2.1 hd w) k
theorem rp_lor {t : PP ρ} {x y : Int64} (hd : decode M.2.2.1 pc = .ok (.lor, 1)) (k : RP l K n d M Z (pc + 1) lv (.long (x ||| y) :: st) en t) : RP l K n d M Z pc lv (.long y :: .long x :: st) en t := RP.go (fun p e R s m args below meth c H locs ls Q C hl w => lv_lor C.1 C.2.1 hd w) k
theorem rp_iushr {t : PP ρ} {x y : Int32} (hd : decode M.2.2.1 pc = .ok (.iushr, 1)) (k : RP l K n d M Z (pc + 1) lv (.int (x.toUInt32 >>> (y.toUInt32 &&& Int32.toUInt32 31)).toInt32 :: st) en t) : RP l K n d M Z pc lv (.int y :: .int x :: st) en t := RP.go (fun p e R s m args below meth c H locs ls Q C hl w => lv_iushr C.1 C.2.1 hd rfl w) k
theorem rp_lushr {t : PP ρ} {x : Int64} {y : Int32} (hd : decode M.2.2.1 pc = .ok (.lushr, 1)) (k : RP l K n d M Z (pc + 1) lv (.long ((x.toUInt64 >>> (y.toInt64.toUInt64 &&& Int64.toUInt64 63)).toInt64) :: st) en t) : RP l K n d M Z pc lv (.int y :: .long x :: st) en t := RP.go (fun p e R s m args below meth c H locs ls Q C hl w => lv_lushr C.1 C.2.1 hd rfl w) k
theorem rp_lshl {t : PP ρ} {x : Int64} {y : Int32} (hd : decode M.2.2.1 pc = .ok (.lshl, 1)) (k : RP l K n d M Z (pc + 1) lv (.long (x <<< (y.toInt64 &&& 63)) :: st) en t) : RP l K n d M Z pc lv (.int y :: .long x :: st) en t := RP.go (fun p e R s m args below meth c H locs ls Q C hl w => lv_lshl C.1 C.2.1 hd rfl w) k
theorem rp_lshr {t : PP ρ} {x : Int64} {y : Int32} (hd : decode M.2.2.1 pc = .ok (.lshr, 1)) (k : RP l K n d M Z (pc + 1) lv (.long (x >>> (y.toInt64 &&& 63)) :: st) en t) : RP l K n d M Z pc lv (.int y :: .long x :: st) en t := RP.go (fun p e R s m args below meth c H locs ls Q C hl w => lv_lshr C.1 C.2.1 hd rfl w) k
theorem rp_i2l {t : PP ρ} {x : Int32} (hd : decode M.2.2.1 pc = .ok (.i2l, 1)) (k : RP l K n d M Z (pc + 1) lv (.long (x.toInt64) :: st) en t) : RP l K n d M Z pc lv (.int x :: st) en t := RP.go (fun p e R s m args below meth c H locs ls Q C hl w => lv_i2l C.1 C.2.1 hd rfl w) k
theorem rp_l2i {t : PP ρ} {x : Int64} (hd : decode M.2.2.1 pc = .ok (.l2i, 1)) (k : RP l K n d M Z (pc + 1) lv (.int (x.toInt32) :: st) en t) : RP l K n d M Z pc lv (.long x :: st) en t := RP.go (fun p e R s m args below meth c H locs ls Q C hl w => lv_l2i C.1 C.2.1 hd rfl w) k
theorem rp_i2c {t : PP ρ} {x : Int32} (hd : decode M.2.2.1 pc = .ok (.i2c, 1)) (k : RP l K n d M Z (pc + 1) lv (.int ((x.toUInt32 % 65536).toInt32) :: st) en t) : RP l K n d M Z pc lv (.int x :: st) en t := RP.go (fun p e R s m args below meth c H locs ls Q C hl w => lv_i2c C.1 C.2.1 hd rfl w) k
theorem rp_ineg {t : PP ρ} {x : Int32} (hd : decode M.2.2.1 pc = .ok (.ineg, 1)) (k : RP l K n d M Z (pc + 1) lv (.int (-x) :: st) en t) : RP l K n d M Z pc lv (.int x :: st) en t := RP.go (fun p e R s m args below meth c H locs ls Q C hl w => lv_ineg C.1 C.2.1 hd w) k
theorem rp_lcmp {t : PP ρ} {x y : Int64} (hd : decode M.2.2.1 pc = .ok (.lcmp, 1)) (k : RP l K n d M Z (pc + 1) lv (.int (lg_cmp x y) :: st) en t) : RP l K n d M Z pc lv (.long y :: .long x :: st) en t := RP.go (fun p e R s m args below meth c H locs ls Q C hl w => W.lcmp C.1 C.2.1 hd w) k
theorem rp_idiv {α : Type} {f : Unit → PP α} {k : α → PP ρ} {x y : Int32} (hd : decode M.2.2.1 pc = .ok (.idiv, 1)) (h : RP l K n d M Z (pc + 1) lv (.int (x / y) :: st) en (bd (f ()) k)) : RP l K n d M Z pc lv (.int y :: .int x :: st) en (bd (bd (gd (¬ y = 0)) f) k) := by
  intro σ r σ' q
  by_cases hy : ¬ y = 0
  · have q2 : bd (f ()) k σ = some (r, σ') := by simpa [bd, gd, hy] using q
    exact RP.go (fun p e R s m args below meth c H locs ls Q C hl w => lv_idiv C.1 C.2.1 hd hy w) h σ r σ' q2
  · simp [bd, gd, hy] at q
theorem rp_irem {α : Type} {f : Unit → PP α} {k : α → PP ρ} {x y : Int32} (hd : decode M.2.2.1 pc = .ok (.irem, 1)) (h : RP l K n d M Z (pc + 1) lv (.int (x - x / y * y) :: st) en (bd (f ()) k)) : RP l K n d M Z pc lv (.int y :: .int x :: st) en (bd (bd (gd (¬ y = 0)) f) k) := by
  intro σ r σ' q
  by_cases hy : ¬ y = 0
  · have q2 : bd (f ()) k σ = some (r, σ') := by simpa [bd, gd, hy] using q
    exact RP.go (fun p e R s m args below meth c H locs ls Q C hl w => lv_irem C.1 C.2.1 hd hy w) h σ r σ' q2
  · simp [bd, gd, hy] at q
theorem rp_ldiv {α : Type} {f : Unit → PP α} {k : α → PP ρ} {x y : Int64} (hd : decode M.2.2.1 pc = .ok (.ldiv, 1)) (h : RP l K n d M Z (pc + 1) lv (.long (x / y) :: st) en (bd (f ()) k)) : RP l K n d M Z pc lv (.long y :: .long x :: st) en (bd (bd (gd (¬ y = 0)) f) k) := by
  intro σ r σ' q
  by_cases hy : ¬ y = 0
  · have q2 : bd (f ()) k σ = some (r, σ') := by simpa [bd, gd, hy] using q
    exact RP.go (fun p e R s m args below meth c H locs ls Q C hl w => lv_ldiv C.1 C.2.1 hd hy w) h σ r σ' q2
  · simp [bd, gd, hy] at q
theorem rp_lrem {α : Type} {f : Unit → PP α} {k : α → PP ρ} {x y : Int64} (hd : decode M.2.2.1 pc = .ok (.lrem, 1)) (h : RP l K n d M Z (pc + 1) lv (.long (x - x / y * y) :: st) en (bd (f ()) k)) : RP l K n d M Z pc lv (.long y :: .long x :: st) en (bd (bd (gd (¬ y = 0)) f) k) := by
  intro σ r σ' q
  by_cases hy : ¬ y = 0
  · have q2 : bd (f ()) k σ = some (r, σ') := by simpa [bd, gd, hy] using q
    exact RP.go (fun p e R s m args below meth c H locs ls Q C hl w => lv_lrem C.1 C.2.1 hd hy w) h σ r σ' q2
  · simp [bd, gd, hy] at q
theorem rp_icmp_eq {α : Type} {A B : PP α} {k : α → PP ρ} {x y : Int32} {i : Decidable (x = y)} {off : Int} (tgt : Nat) (hd : decode M.2.2.1 pc = .ok (.if_icmp .eq off, 3)) (ht : (pc : Int) + off = (tgt : Int)) (kt : RP l K n d M Z tgt lv st en (bd A k)) (kf : RP l K n d M Z (pc + 3) lv st en (bd B k)) : RP l K n d M Z pc lv (.int y :: .int x :: st) en (bd (@ite _ (x = y) i A B) k) := by
  intro σ r σ' h p e R s m args below meth c C H locs ls hP hS hl
  refine lv_icmp_eq C.1 C.2.1 hd ht (fun q => kt σ r σ' ?_ p e R s m args below meth c C H locs ls hP hS hl) (fun q => kf σ r σ' ?_ p e R s m args below meth c C H locs ls hP hS hl)
  · simpa only [if_pos q] using h
  · simpa only [if_neg q] using h
theorem rp_icmp_ne {α : Type} {A B : PP α} {k : α → PP ρ} {x y : Int32} {i : Decidable (x = y)} {off : Int} (tgt : Nat) (hd : decode M.2.2.1 pc = .ok (.if_icmp .ne off, 3)) (ht : (pc : Int) + off = (tgt : Int)) (kt : RP l K n d M Z tgt lv st en (bd B k)) (kf : RP l K n d M Z (pc + 3) lv st en (bd A k)) : RP l K n d M Z pc lv (.int y :: .int x :: st) en (bd (@ite _ (x = y) i A B) k) := by
  intro σ r σ' h p e R s m args below meth c C H locs ls hP hS hl
  refine lv_icmp_ne C.1 C.2.1 hd ht (fun q => kt σ r σ' ?_ p e R s m args below meth c C H locs ls hP hS hl) (fun q => kf σ r σ' ?_ p e R s m args below meth c C H locs ls hP hS hl)
  · simpa only [if_neg q] using h
  · simpa only [if_pos q] using h
theorem rp_icmp_lt {α : Type} {A B : PP α} {k : α → PP ρ} {x y : Int32} {i : Decidable (x < y)} {off : Int} (tgt : Nat) (hd : decode M.2.2.1 pc = .ok (.if_icmp .lt off, 3)) (ht : (pc : Int) + off = (tgt : Int)) (kt : RP l K n d M Z tgt lv st en (bd A k)) (kf : RP l K n d M Z (pc + 3) lv st en (bd B k)) : RP l K n d M Z pc lv (.int y :: .int x :: st) en (bd (@ite _ (x < y) i A B) k) := by
  intro σ r σ' h p e R s m args below meth c C H locs ls hP hS hl
  refine lv_icmp_lt C.1 C.2.1 hd ht (fun q => kt σ r σ' ?_ p e R s m args below meth c C H locs ls hP hS hl) (fun q => kf σ r σ' ?_ p e R s m args below meth c C H locs ls hP hS hl)
  · simpa only [if_pos q] using h
  · simpa only [if_neg q] using h
theorem rp_icmp_ge {α : Type} {A B : PP α} {k : α → PP ρ} {x y : Int32} {i : Decidable (y ≤ x)} {off : Int} (tgt : Nat) (hd : decode M.2.2.1 pc = .ok (.if_icmp .ge off, 3)) (ht : (pc : Int) + off = (tgt : Int)) (kt : RP l K n d M Z tgt lv st en (bd A k)) (kf : RP l K n d M Z (pc + 3) lv st en (bd B k)) : RP l K n d M Z pc lv (.int y :: .int x :: st) en (bd (@ite _ (y ≤ x) i A B) k) := by
  intro σ r σ' h p e R s m args below meth c C H locs ls hP hS hl
  refine lv_icmp_ge C.1 C.2.1 hd ht (fun q => kt σ r σ' ?_ p e R s m args below meth c C H locs ls hP hS hl) (fun q => kf σ r σ' ?_ p e R s m args below meth c C H locs ls hP hS hl)
  · simpa only [if_pos q] using h
  · simpa only [if_neg q] using h
theorem rp_icmp_gt {α : Type} {A B : PP α} {k : α → PP ρ} {x y : Int32} {i : Decidable (y < x)} {off : Int} (tgt : Nat) (hd : decode M.2.2.1 pc = .ok (.if_icmp .gt off, 3)) (ht : (pc : Int) + off = (tgt : Int)) (kt : RP l K n d M Z tgt lv st en (bd A k)) (kf : RP l K n d M Z (pc + 3) lv st en (bd B k)) : RP l K n d M Z pc lv (.int y :: .int x :: st) en (bd (@ite _ (y < x) i A B) k) := by
  intro σ r σ' h p e R s m args below meth c C H locs ls hP hS hl
  refine lv_icmp_gt C.1 C.2.1 hd ht (fun q => kt σ r σ' ?_ p e R s m args below meth c C H locs ls hP hS hl) (fun q => kf σ r σ' ?_ p e R s m args below meth c C H locs ls hP hS hl)
  · simpa only [if_pos q] using h
  · simpa only [if_neg q] using h
theorem rp_icmp_le {α : Type} {A B : PP α} {k : α → PP ρ} {x y : Int32} {i : Decidable (x ≤ y)} {off : Int} (tgt : Nat) (hd : decode M.2.2.1 pc = .ok (.if_icmp .le off, 3)) (ht : (pc : Int) + off = (tgt : Int)) (kt : RP l K n d M Z tgt lv st en (bd A k)) (kf : RP l K n d M Z (pc + 3) lv st en (bd B k)) : RP l K n d M Z pc lv (.int y :: .int x :: st) en (bd (@ite _ (x ≤ y) i A B) k) := by
  intro σ r σ' h p e R s m args below meth c C H locs ls hP hS hl
  refine lv_icmp_le C.1 C.2.1 hd ht (fun q => kt σ r σ' ?_ p e R s m args below meth c C H locs ls hP hS hl) (fun q => kf σ r σ' ?_ p e R s m args below meth c C H locs ls hP hS hl)
  · simpa only [if_pos q] using h
  · simpa only [if_neg q] using h
theorem rp_if_eq {α : Type} {A B : PP α} {k : α → PP ρ} {x : Int32} {i : Decidable (x = 0)} {off : Int} (tgt : Nat) (hd : decode M.2.2.1 pc = .ok (.ifCond .eq off, 3)) (ht : (pc : Int) + off = (tgt : Int)) (kt : RP l K n d M Z tgt lv st en (bd A k)) (kf : RP l K n d M Z (pc + 3) lv st en (bd B k)) : RP l K n d M Z pc lv (.int x :: st) en (bd (@ite _ (x = 0) i A B) k) := by
  intro σ r σ' h p e R s m args below meth c C H locs ls hP hS hl
  refine lv_if_eq C.1 C.2.1 hd ht (fun q => kt σ r σ' ?_ p e R s m args below meth c C H locs ls hP hS hl) (fun q => kf σ r σ' ?_ p e R s m args below meth c C H locs ls hP hS hl)
  · simpa only [if_pos q] using h
  · simpa only [if_neg q] using h
theorem rp_if_ne {α : Type} {A B : PP α} {k : α → PP ρ} {x : Int32} {i : Decidable (x = 0)} {off : Int} (tgt : Nat) (hd : decode M.2.2.1 pc = .ok (.ifCond .ne off, 3)) (ht : (pc : Int) + off = (tgt : Int)) (kt : RP l K n d M Z tgt lv st en (bd B k)) (kf : RP l K n d M Z (pc + 3) lv st en (bd A k)) : RP l K n d M Z pc lv (.int x :: st) en (bd (@ite _ (x = 0) i A B) k) := by
  intro σ r σ' h p e R s m args below meth c C H locs ls hP hS hl
  refine lv_if_ne C.1 C.2.1 hd ht (fun q => kt σ r σ' ?_ p e R s m args below meth c C H locs ls hP hS hl) (fun q => kf σ r σ' ?_ p e R s m args below meth c C H locs ls hP hS hl)
  · simpa only [if_neg q] using h
  · simpa only [if_pos q] using h
theorem rp_if_lt {α : Type} {A B : PP α} {k : α → PP ρ} {x : Int32} {i : Decidable (x < 0)} {off : Int} (tgt : Nat) (hd : decode M.2.2.1 pc = .ok (.ifCond .lt off, 3)) (ht : (pc : Int) + off = (tgt : Int)) (kt : RP l K n d M Z tgt lv st en (bd A k)) (kf : RP l K n d M Z (pc + 3) lv st en (bd B k)) : RP l K n d M Z pc lv (.int x :: st) en (bd (@ite _ (x < 0) i A B) k) := by
  intro σ r σ' h p e R s m args below meth c C H locs ls hP hS hl
  refine lv_if_lt C.1 C.2.1 hd ht (fun q => kt σ r σ' ?_ p e R s m args below meth c C H locs ls hP hS hl) (fun q => kf σ r σ' ?_ p e R s m args below meth c C H locs ls hP hS hl)
  · simpa only [if_pos q] using h
  · simpa only [if_neg q] using h
theorem rp_if_ge {α : Type} {A B : PP α} {k : α → PP ρ} {x : Int32} {i : Decidable (0 ≤ x)} {off : Int} (tgt : Nat) (hd : decode M.2.2.1 pc = .ok (.ifCond .ge off, 3)) (ht : (pc : Int) + off = (tgt : Int)) (kt : RP l K n d M Z tgt lv st en (bd A k)) (kf : RP l K n d M Z (pc + 3) lv st en (bd B k)) : RP l K n d M Z pc lv (.int x :: st) en (bd (@ite _ (0 ≤ x) i A B) k) := by
  intro σ r σ' h p e R s m args below meth c C H locs ls hP hS hl
  refine lv_if_ge C.1 C.2.1 hd ht (fun q => kt σ r σ' ?_ p e R s m args below meth c C H locs ls hP hS hl) (fun q => kf σ r σ' ?_ p e R s m args below meth c C H locs ls hP hS hl)
  · simpa only [if_pos q] using h
  · simpa only [if_neg q] using h
theorem rp_if_gt {α : Type} {A B : PP α} {k : α → PP ρ} {x : Int32} {i : Decidable (0 < x)} {off : Int} (tgt : Nat) (hd : decode M.2.2.1 pc = .ok (.ifCond .gt off, 3)) (ht : (pc : Int) + off = (tgt : Int)) (kt : RP l K n d M Z tgt lv st en (bd A k)) (kf : RP l K n d M Z (pc + 3) lv st en (bd B k)) : RP l K n d M Z pc lv (.int x :: st) en (bd (@ite _ (0 < x) i A B) k) := by
  intro σ r σ' h p e R s m args below meth c C H locs ls hP hS hl
  refine lv_if_gt C.1 C.2.1 hd ht (fun q => kt σ r σ' ?_ p e R s m args below meth c C H locs ls hP hS hl) (fun q => kf σ r σ' ?_ p e R s m args below meth c C H locs ls hP hS hl)
  · simpa only [if_pos q] using h
  · simpa only [if_neg q] using h
theorem rp_if_le {α : Type} {A B : PP α} {k : α → PP ρ} {x : Int32} {i : Decidable (x ≤ 0)} {off : Int} (tgt : Nat) (hd : decode M.2.2.1 pc = .ok (.ifCond .le off, 3)) (ht : (pc : Int) + off = (tgt : Int)) (kt : RP l K n d M Z tgt lv st en (bd A k)) (kf : RP l K n d M Z (pc + 3) lv st en (bd B k)) : RP l K n d M Z pc lv (.int x :: st) en (bd (@ite _ (x ≤ 0) i A B) k) := by
  intro σ r σ' h p e R s m args below meth c C H locs ls hP hS hl
  refine lv_if_le C.1 C.2.1 hd ht (fun q => kt σ r σ' ?_ p e R s m args below meth c C H locs ls hP hS hl) (fun q => kf σ r σ' ?_ p e R s m args below meth c C H locs ls hP hS hl)
  · simpa only [if_pos q] using h
  · simpa only [if_neg q] using h
end RPS
