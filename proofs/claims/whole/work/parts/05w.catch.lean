/-! ===== a throw that is caught by the first row of the method's own table (over the library without Shelf42) ===== -/
section CT
variable {p : Program} {l : Launch} {e : Env} {R : Room} {s : State} {m : MethodId} {args : Array Value} {below : List Frame} {meth : Method} {c : Code} {H : Heap} {locs : List Loc} {cells slots : Nat} {Q : State → Prop}
/-- the row covers the place, and names a class that takes the thrown thing; its entry may be resolved already or not -/
theorem ct_row {S : State} {g : JFrame} {q : Addr} {x : ExceptionTableEntry} {t : List ExceptionTableEntry} {cT : ClassId} {ce : Cell} {k1 k2 : Class} (hx : covers x g.pc = true) (h0 : x.catchType ≠ 0)
    (hl : S.vm.ClassLinks e.platform g.method.cls x.catchType cT) (hcell : S.heap[q]? = some ce) (hv : ce.vm = .none) (h1 : S.vm.classes[ce.cls]? = some k1) (h2 : S.vm.classes[cT]? = some k2) (hfit : S.vm.assignable ce.cls cT = true)
    (P : Handler → Pre) (E : CtlPost) (d : Bool) (acts : List Action) :
    wp (findHandler.go g q (x :: t)) P E e d acts S ↔ P (.found x.handlerPc) d acts (S.setVm (S.vm.noted g.method.cls x.catchType (.cls cT))) := by
  have hlike : S.vm.Alike (S.vm.noted g.method.cls x.catchType (.cls cT)) := (Vm.Alike.refl S.vm).noted _ _ _
  obtain ⟨j1, hj1, -⟩ := hlike.2.2 _ _ h1
  obtain ⟨j2, hj2, -⟩ := hlike.2.2 _ _ h2
  rw [← hlike.assignable] at hfit
  obtain ⟨hans, htab⟩ := (resolveClass_links e.toSetting hl).op (op := VmOp.resolveClass g.method.cls x.catchType) rfl
  have hcov : (decide (x.startPc ≤ g.pc) && decide (g.pc < x.endPc)) = true := hx
  simp [findHandler.go, hcov, h0, hans, htab, hcell, hv, hj1, hj2, hfit, VmOp.dirties, VmOp.acts]
/-- the step itself -/
theorem ct_step {S : State} {g : JFrame} {q : Addr} {r : List Frame} {x : ExceptionTableEntry} {t : List ExceptionTableEntry} {cT : ClassId} {ce : Cell} {k1 k2 : Class} (hm : S.vm.method? g.method = some meth) (hc : meth.code = some c) (htbl : c.exceptionTable.toList = x :: t)
    (hx : covers x g.pc = true) (h0 : x.catchType ≠ 0) (hl : S.vm.ClassLinks e.platform g.method.cls x.catchType cT) (hcell : S.heap[q]? = some ce) (hv : ce.vm = .none) (h1 : S.vm.classes[ce.cls]? = some k1) (h2 : S.vm.classes[cT]? = some k2) (hfit : S.vm.assignable ce.cls cT = true) :
    (stepThrowing e S q (.java g :: r)).1 = (S.setVm (S.vm.noted g.method.cls x.catchType (.cls cT))).setFrames (.java { g with pc := x.handlerPc, stack := [.ref q] } :: r) := by
  simp only [stepThrowing, searchFrame, vmDo]
  generalize hr : Sem.go _ e false [] S = res
  obtain ⟨as, rfl, -⟩ := Sem.eq_ok_of hr (a := Handler.found x.handlerPc) (s' := S.setVm (S.vm.noted g.method.cls x.catchType (.cls cT))) (acts' := [])
    (by simp [_root_.Jvm.W.findHandler_eq hm hc, htbl, ct_row hx h0 hl hcell hv h1 h2 hfit])
  rfl
/-- a walk that has thrown goes on at the handler -/
theorem ct_catch {own name E : String} {pc : Nat} {ls : Array Slot} {rest : List Value} {ce : Cell} {q : Addr} (x : ExceptionTableEntry) (t : List ExceptionTableEntry) (hown : s.vm.findClass own = some m.cls) (htbl : c.exceptionTable.toList = x :: t)
    (hx : covers x pc = true) (h0 : x.catchType ≠ 0) (hlink : (Cond.classLink own x.catchType name).before args s = true) (hcast : (Cond.castable E name).before args s = true) (hcell : H[q]? = some ce) (hv : ce.vm = .none) (hcl : s.vm.findClass E = some ce.cls)
    (kk : W p l e R s m args below meth c H locs cells slots Q (F0 m x.handlerPc ls [.ref q])) : vx_W p l e R s m args below meth c H locs cells slots Q (F0 m pc ls rest) q := by
  intro T hT X
  obtain ⟨cE, cT, hcE, hcT, hfit⟩ := Cond.castable_spec hcast
  cases Option.some.inj (hcE.symm.trans hcl)
  obtain ⟨cN, hcN, hln⟩ := Cond.classLink_spec hown hlink e.platform (by rw [X.admits.platform])
  cases Option.some.inj (hcN.symm.trans hcT)
  obtain ⟨dk, -, -, -, hdk, -, -, -, -, -, -, hopen⟩ := hln.here
  obtain ⟨k1, hk1⟩ := Vm.classAt_of_findClass hcl
  obtain ⟨k2, hk2⟩ := Vm.classAt_of_findClass hcT
  obtain ⟨j1, hj1, -⟩ := X.warmed.alike.2.2 _ _ hk1
  obtain ⟨j2, hj2, -⟩ := X.warmed.alike.2.2 _ _ hk2
  have hfit2 : T.vm.assignable ce.cls cT = true := by rw [X.warmed.alike.assignable]; exact hfit
  have X2 := X.noted (X.warmed.noted hdk hopen (State.rightAt_cls hln))
  obtain ⟨u, hu, hQ⟩ := kk (T.setVm (T.vm.noted m.cls x.catchType (.cls cT))) hT X2
  refine ⟨u, ?_, hQ⟩
  obtain ⟨hgo, hin⟩ := At.throwing (g := F0 m pc ls rest) X.here q
  refine Steps.head hgo hin ?_
  obtain ⟨g0, hg0⟩ := X.frames_eq
  rw [stepThread_throwing (frames_entered X.here.top _),
    ct_step (S := (T.setTop (F0 m pc ls rest)).pushFrame (.throwing q)) (g := F0 m pc ls rest) (x := x) (t := t) (cT := cT) (ce := ce) (k1 := j1) (k2 := j2) X.method' X.code htbl hx h0 (X.warmed.classLinks hln) (by rw [← hT] at hcell; exact hcell) hv hj1 hj2 hfit2]
  rw [State.setTop_of_frames _ (show (T.setVm (T.vm.noted m.cls x.catchType (.cls cT))).frames = _ from hg0)] at hu
  have hsame : ∀ (fs gs : List Frame) (w : Vm), ((T.setFrames fs).setVm w).setFrames gs = (T.setVm w).setFrames gs := fun fs gs w => State.setFrames_setFrames (T.setVm w) fs gs
  rw [State.pushFrame, State.setTop_of_frames _ hg0, State.setFrames_setFrames, hsame, hg0]
  exact hu
end CT
