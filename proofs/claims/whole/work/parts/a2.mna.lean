/-! ===== new int[4][5] ===== -/
def zmO (c : ClassId) (h0 i : Nat) : Cell := arrV c 4 (fun j => if j < i then .ref (h0 + 1 + j) else .null)
def zmI (c : ClassId) : Cell := arrV c 5 (fun _ => .int 0)
def zmF (s : State) (c comp : ClassId) : Nat → State
  | 0 => s.pushCell (zmO c s.heap.size 0)
  | i + 1 => ((zmF s c comp i).pushCell (zmI comp)).setCell s.heap.size (zmO c s.heap.size (i + 1))
theorem zmO_s (c : ClassId) (h0 i : Nat) : (zmO c h0 i).setSlot i (.ref (h0 + 1 + i)) = zmO c h0 (i + 1) := by
  unfold zmO
  rw [arrV_store]
  refine congrArg (arrV c 4) (funext fun j => ?_)
  unfold updV
  by_cases q : j = i
  · subst q; simp
  · by_cases r : j < i
    · simp [q, r, show j < i + 1 by omega]
    · simp [q, r, show ¬ j < i + 1 by omega]
theorem zmF_f (s : State) (c comp : ClassId) : ∀ i, (zmF s c comp i).heap.size = s.heap.size + 1 + i ∧ (zmF s c comp i).heap[s.heap.size]? = some (zmO c s.heap.size i) ∧ (zmF s c comp i).vm = s.vm ∧ (zmF s c comp i).slotsUsed = s.slotsUsed + 4 + i * 5
  | 0 => ⟨by simp [zmF], by simp [zmF], rfl, by simp [zmF, zmO, arrV_size]⟩
  | i + 1 => by
    obtain ⟨a, b, d, u⟩ := zmF_f s c comp i
    have hlt : s.heap.size < (zmF s c comp i).heap.size := by omega
    have hb' : ((zmF s c comp i).pushCell (zmI comp)).heap[s.heap.size]? = some (zmO c s.heap.size i) := by rw [State.heap_pushCell_of_lt (h := hlt)]; exact b
    refine ⟨?_, State.heap_setCell_self hb', by simp [zmF, d], ?_⟩
    · simp [zmF, State.setCell, a]; omega
    · simp [zmF, u, zmI, arrV_size, Nat.succ_mul]; omega
theorem zmF_top (s : State) (f : JFrame) (c comp : ClassId) : ∀ i, zmF (s.setTop f) c comp i = (zmF s c comp i).setTop f
  | 0 => rfl
  | i + 1 => by simp only [zmF, zmF_top s f c comp i, State.heap_setTop, State.pushCell_setTop, State.setCell_setTop]
theorem zmF_old (s : State) (c comp : ClassId) {a : Addr} (ha : a < s.heap.size) : ∀ i, (zmF s c comp i).heap[a]? = s.heap[a]?
  | 0 => State.heap_pushCell_of_lt _ _ ha
  | i + 1 => by
    have f1 := (zmF_f s c comp i).1
    have hlt : a < (zmF s c comp i).heap.size := Nat.lt_of_lt_of_le ha (by rw [f1]; omega)
    show (((zmF s c comp i).pushCell (zmI comp)).setCell s.heap.size _).heap[a]? = _
    rw [State.heap_setCell_other (Nat.ne_of_gt ha), State.heap_pushCell_of_lt (h := hlt)]
    exact zmF_old s c comp ha i
theorem zmF_in (s : State) (c comp : ClassId) : ∀ i j, j < i → (zmF s c comp i).heap[s.heap.size + 1 + j]? = some (zmI comp)
  | 0, _, h => absurd h (Nat.not_lt_zero _)
  | i + 1, j, h => by
    have f1 := (zmF_f s c comp i).1
    show (((zmF s c comp i).pushCell (zmI comp)).setCell s.heap.size _).heap[s.heap.size + 1 + j]? = _
    rw [State.heap_setCell_other (show s.heap.size ≠ s.heap.size + 1 + j by omega)]
    rcases Nat.lt_or_ge j i with hj | hj
    · have hlt : s.heap.size + 1 + j < (zmF s c comp i).heap.size := by omega
      rw [State.heap_pushCell_of_lt (h := hlt)]
      exact zmF_in s c comp i j hj
    · have e : j = i := by omega
      subst e
      rw [← f1]
      exact State.heap_pushCell_size _ _
section MNA
variable {E : CtlPost} {e : Env} {d : Bool} {acts : List Action} {s : State}
theorem zm_row {comp cc : ClassId} {kc : Class} (hkc : s.vm.classes[comp]? = some kc) (hkindc : kc.kind = .array cc .int) (hl : 5 ≤ e.platform.arrayLengthLimit) (hh : 20 ≤ e.platform.maxHeapBytes) (h1 : s.heap.size < e.platform.maxCells) (h2 : s.slotsUsed + 5 ≤ e.platform.maxSlots) {Q : Addr → Pre} (hq : ∀ acts', Q s.heap.size d acts' (s.pushCell (zmI comp))) : Jvm.Sem.wp (multianewarray.make comp [(5 : Int32)]) Q E e d acts s := by
  rw [multianewarray.make]
  simp only [wp_bind', Jvm.W.ite, show ¬ (5 : Int32) < 0 by decide, if_false, wp_pure', Jvm.W.theClass, hkc, hkindc, Option.some.injEq, exists_eq_left']
  refine Jvm.W.newArray_of hkc hkindc (by show ¬ 5 > _; omega) (by show ¬ 5 * 4 > _; omega) h1 h2 rfl (fun acts' => ?_)
  have := hq acts'
  unfold zmI at this
  rw [← arrV_new] at this
  exact this
theorem zm_make {c comp cc : ClassId} {k kc : Class} (hk : s.vm.classes[c]? = some k) (hkind : k.kind = .array comp (.array .int)) (hkc : s.vm.classes[comp]? = some kc) (hkindc : kc.kind = .array cc .int) (hl : 5 ≤ e.platform.arrayLengthLimit) (hh : 20 ≤ e.platform.maxHeapBytes) (h1 : s.heap.size + 5 ≤ e.platform.maxCells) (h2 : s.slotsUsed + 24 ≤ e.platform.maxSlots) {Q : Addr → Pre} (hq : ∀ d' acts', Q s.heap.size d' acts' (zmF s c comp 4)) : Jvm.Sem.wp (multianewarray.make c [(4 : Int32), (5 : Int32)]) Q E e d acts s := by
  have hfind : ([(5 : Int32)].find? (· < 0)) = none := by decide
  rw [multianewarray.make]
  simp only [wp_bind', Jvm.W.ite, show ¬ (4 : Int32) < 0 by decide, if_false, wp_pure', Jvm.W.theClass, hk, hkind, Option.some.injEq, exists_eq_left']
  refine Jvm.W.newArray_of hk hkind (by show ¬ 4 > _; omega) (by show ¬ 4 * 4 > _; omega) (by omega) (by show _ + 4 ≤ _; omega) rfl (fun acts' => ?_)
  simp only [hfind]
  rw [ite_self, wp_bind', Std.Legacy.Range.forIn_eq_forIn_range']
  show Jvm.Sem.wp (forIn (List.range' 0 4 1) PUnit.unit _) _ E e d acts' _
  refine Jvm.wp_forIn_inv (fun rest s' => ∃ i, i ≤ 4 ∧ rest = List.range' i (4 - i) ∧ s' = zmF s c comp i) _ _ ⟨0, Nat.zero_le _, rfl, ?_⟩ ?_ ?_
  · show _ = s.pushCell (zmO c s.heap.size 0)
    have : zmO c s.heap.size 0 = arrV c 4 (fun _ => .null) := by
      unfold zmO
      exact congrArg (arrV c 4) (funext fun j => by simp)
    rw [this, ← arrV_new]
    rfl
  · rintro x rest s' d' acts' Q' ⟨i, hi, hl2, rfl⟩ hnext
    have hlt : i < 4 := by
      rcases Nat.lt_or_ge i 4 with h | h
      · exact h
      · rw [show 4 - i = 0 from by omega] at hl2; simp at hl2
    obtain ⟨rfl, hrest⟩ : x = i ∧ rest = List.range' (i + 1) (4 - (i + 1)) := by
      rw [show 4 - i = (4 - (i + 1)) + 1 from by omega, List.range'_succ] at hl2
      exact ⟨(List.cons.inj hl2).1, (List.cons.inj hl2).2⟩
    obtain ⟨f1, f2, f3, f4⟩ := zmF_f s c comp x
    simp only [wp_bind']
    refine zm_row (by rw [f3]; exact hkc) hkindc hl hh (by rw [f1]; omega) (by rw [f4]; omega) (fun acts2 => ?_)
    have hlt0 : s.heap.size < (zmF s c comp x).heap.size := by rw [f1]; omega
    simp only [wp_bind', Jvm.W.writeLoc, wp_pure']
    refine ⟨zmO c s.heap.size x, by rw [State.heap_pushCell_of_lt (h := hlt0)]; exact f2, (fun q => by cases q), by show x < (arrV _ _ _).slots.size; rw [arrV_size]; exact hlt, ?_, hnext _ _ _ ⟨x + 1, hlt, hrest, ?_⟩⟩
    · show State.fitsSlot _ c .none x _ = true
      simp [State.fitsSlot, State.slotType?, f3, hk, hkind, fits]
    · rw [f1, zmO_s]; rfl
  · rintro s' d' acts' ⟨i, hi, hl2, rfl⟩
    have hiN : i = 4 := by
      rcases Nat.lt_or_ge i 4 with h | h
      · rw [show 4 - i = (4 - (i + 1)) + 1 from by omega, List.range'_succ] at hl2; cases hl2
      · omega
    subst hiN
    simp only [wp_pure']
    exact hq _ _
end MNA
theorem zm_stand {p : Program} {l : Launch} {e : Env} {R : Room} {s : State} {m : MethodId} {args : Array Value} {below : List Frame} {meth : Method} {c : Code} {T : State} {locs : List Loc} {cells slots : Nat} (X : Stand p l e R s m args below meth c T locs cells slots) (cA comp : ClassId) : ∀ i, Stand p l e R s m args below meth c (zmF T cA comp i) (locs ++ (List.range i).map fun j => ⟨T.heap.size, j⟩) (cells + 1 + i) (slots + 4 + i * 5)
  | 0 => by
    have h := X.pushed (zmO cA T.heap.size 0)
    rw [show (zmO cA T.heap.size 0).slots.size = 4 from arrV_size _ _ _] at h
    simpa [zmF] using h
  | i + 1 => by
    have Xi := zm_stand X cA comp i
    obtain ⟨f1, f2, f3, f4⟩ := zmF_f T cA comp i
    have hlt0 : T.heap.size < (zmF T cA comp i).heap.size := by rw [f1]; omega
    have hcell : ((zmF T cA comp i).pushCell (zmI comp)).heap[T.heap.size]? = some (zmO cA T.heap.size i) := by rw [State.heap_pushCell_of_lt (h := hlt0)]; exact f2
    have h := (Xi.pushed (zmI comp)).stored hcell i (.ref (T.heap.size + 1 + i))
    rw [show (zmI comp).slots.size = 5 from arrV_size _ _ _, zmO_s] at h
    have e2 : (locs ++ (List.range (i + 1)).map fun j => (⟨T.heap.size, j⟩ : Loc)) = (locs ++ (List.range i).map fun j => (⟨T.heap.size, j⟩ : Loc)) ++ [⟨T.heap.size, i⟩] := by simp [List.range_succ, List.append_assoc]
    have e3 : slots + 4 + (i + 1) * 5 = slots + 4 + i * 5 + 5 := by omega
    rw [e2, e3]
    exact h
theorem zm_go {p : Program} {l : Launch} {e : Env} {R : Room} {s : State} {m : MethodId} {args : Array Value} {below : List Frame} {meth : Method} {c : Code} {T : State} {locs : List Loc} {cells slots : Nat} (X : Stand p l e R s m args below meth c T locs cells slots) (hexec : p.tables.exec = Jvm.exec) {own : String} {index : Nat} (hown : s.vm.findClass own = some m.cls) (hclink : (Cond.classLink own index ("[" ++ (FieldType.array .int).toString)).before args s = true) (hover : (Cond.arrayOver (.array .int)).before args s = true) (harr : (Cond.arrayClass .int).before args s = true) {g : JFrame} (hg : g.method = m) (hdg : decode c.code g.pc = .ok (.multianewarray index 2, 4)) {rest : List Value} (hstack : g.stack = .int 5 :: .int 4 :: rest) (hcells : cells + 5 ≤ R.cells) (hslots : slots + 24 ≤ R.slots) :
    ∃ (vm₁ : Vm) (cA comp : ClassId), s.vm.findClass ("[" ++ (FieldType.array .int).toString) = some cA ∧ s.vm.findClass (FieldType.array .int).toString = some comp ∧
      Stand p l e R s m args below meth c (zmF (T.setVm vm₁) cA comp 4) (locs ++ (List.range 4).map fun j => ⟨T.heap.size, j⟩) (cells + 5) (slots + 24) ∧
      ∀ target, Steps p.tables e below ((zmF (T.setVm vm₁) cA comp 4).setTop { g with pc := g.pc + 4, stack := .ref T.heap.size :: rest }) target → Steps p.tables e below (T.setTop g) target := by
  subst hg
  have hpl : e.platform.magicAccessors = ({} : Platform).magicAccessors := by rw [X.admits.platform]
  obtain ⟨comp, cA, kA, hcomp, -, hkA, hkindA, hnameA⟩ := arrayOverA_spec hover
  obtain ⟨comp', kC, cc, hcomp', hkC, hkindC⟩ := Cond.arrayClass_spec harr
  have ecomp : comp' = comp := Option.some.inj (hcomp'.symm.trans hcomp)
  subst ecomp
  obtain ⟨c0, hfc0, hcl⟩ := Cond.classLink_spec hown hclink e.platform hpl
  cases hnameA.symm.trans hfc0
  obtain ⟨hg₁, hwarm₁, hready₁⟩ := State.classEntry (e := e) X.warmed hcl
  generalize T.vm.noted g.method.cls index (.cls cA) = vm₁ at hg₁ hwarm₁ hready₁
  have hal : s.vm.Alike vm₁ := hwarm₁.alike
  obtain ⟨kA₁, hkA₁, heA⟩ := hal.2.2 _ _ hkA
  obtain ⟨kC₁, hkC₁, heC⟩ := hal.2.2 _ _ hkC
  have hkindA₁ : kA₁.kind = .array comp' (.array .int) := by rw [heA]; exact hkindA
  have hkindC₁ : kC₁.kind = .array cc .int := by rw [heC]; exact hkindC
  have X₁ := X.noted hwarm₁
  obtain ⟨hr1, hr2⟩ := X.roomAbove hcells hslots
  refine ⟨vm₁, cA, comp', hnameA, hcomp, zm_stand X₁ cA comp' 4, fun target hrest => ?_⟩
  have hl1 : 5 ≤ e.platform.arrayLengthLimit := by rw [Launch.admits_arrayLengthLimit X.admits]; decide
  have hh1 : 20 ≤ e.platform.maxHeapBytes := by rw [Launch.admits_maxHeapBytes X.admits]; decide
  jvm_step X.here [hexec, hdg]
  simp only [multianewarray.sem, wp_bind', Jvm.W.resolveClassAt_links (State.method?_setTop g X.here.top) hg₁]
  rw [Jvm.W.popN, if_neg (by decide)]
  refine ⟨g, State.topJava?_setTop' (s := T.setVm vm₁) g X.here.top, [.int 4, .int 5], rest, rfl, hstack, ?_⟩
  simp only [List.mapM_cons, List.mapM_nil, wp_bind', wp_pure']
  refine zm_make (k := kA₁) (kc := kC₁) (comp := comp') (cc := cc) hkA₁ hkindA₁ hkC₁ hkindC₁ hl1 hh1 (by show T.heap.size + 5 ≤ _; omega) (by show T.slotsUsed + 24 ≤ _; omega) (fun d' acts' => ?_)
  have XF := zm_stand X₁ cA comp' 4
  have eS : ((T.setTop g).setVm vm₁).setTop { g with stack := rest } = (T.setVm vm₁).setTop { g with stack := rest } := by
    show ((T.setVm vm₁).setTop g).setTop _ = _
    rw [State.setTop_setTop]
  rw [eS, zmF_top]
  simp only [wp_bind', Jvm.W.mark, Jvm.W.pushRef, State.topJava?_setTop' _ XF.here.top, Option.some.injEq, exists_eq_left', State.setTop_setTop, State.heap_setTop]
  intro acts
  simp [jvm, XF.here.top]
  exact hrest
