/-! A thrown object of the very class that the method's one handler names: the search resolves that entry, and finds it -/
theorem fh_one {e : Env} {Z : State} {f : JFrame} {a : Addr} {meth : Method} {cd : Code} (hm : Z.vm.method? f.method = some meth) (hc : meth.code = some cd) {x : ExceptionTableEntry} (htab : cd.exceptionTable.toList = [x]) (hx : covers x f.pc = true) (h0 : x.catchType ≠ 0) {cT : ClassId} {cell : Cell}
    (hl : Z.vm.ClassLinks e.platform f.method.cls x.catchType cT) (hcell : Z.heap[a]? = some cell) (hobj : ∀ k, cell.vm ≠ .statics k) (hk : ∃ k, Z.vm.classes[cell.cls]? = some k) (hcl : ∃ k, Z.vm.classes[cT]? = some k) (hfit : Z.vm.assignable cell.cls cT = true)
    (Q : Handler → Pre) (F : CtlPost) (d : Bool) (acts : List Action) : wp (findHandler f a) Q F e d acts Z ↔ Q (.found x.handlerPc) d acts (Z.setVm (Z.vm.noted f.method.cls x.catchType (.cls cT))) := by
  have hal : Z.vm.Alike (Z.vm.noted f.method.cls x.catchType (.cls cT)) := (Vm.Alike.refl Z.vm).noted _ _ _
  obtain ⟨k1, hk1⟩ := hk
  obtain ⟨k2, hk2⟩ := hcl
  obtain ⟨j1, hj1, -⟩ := hal.2.2 _ _ hk1
  obtain ⟨j2, hj2, -⟩ := hal.2.2 _ _ hk2
  have hfit2 : (Z.vm.noted f.method.cls x.catchType (.cls cT)).assignable cell.cls cT = true := by rw [hal.assignable]; exact hfit
  obtain ⟨ha, ht⟩ := (resolveClass_links e.toSetting hl).op (op := VmOp.resolveClass f.method.cls x.catchType) rfl
  rw [Jvm.W.findHandler_eq hm hc, htab]
  simp only [covers] at hx
  simp [findHandler.go, hx, h0, ha, ht, hcell, hobj, hj1, hj2, hfit2, VmOp.dirties, VmOp.acts]
theorem x_catch {p : Program} {l : Launch} {e : Env} {R : Room} {s : State} {m : MethodId} {args : Array Value} {below : List Frame} {meth : Method} {c : Code} {T : State} {locs : List Loc} {cells slots : Nat} (XX : Stand p l e R s m args below meth c T locs cells slots) {g : JFrame} (hg : g.method = m) {x : ExceptionTableEntry} (htab : c.exceptionTable.toList = [x]) (hx : covers x g.pc = true) (h0 : x.catchType ≠ 0)
    {own C : String} (hown : s.vm.findClass own = some m.cls) (hlink : (Cond.classLink own x.catchType C).before args s = true) {a : Addr} {cell : Cell} (hC : s.vm.findClass C = some cell.cls) (hcell : T.heap[a]? = some cell) (hvm : cell.vm = .none) (hfit : s.vm.assignable cell.cls cell.cls = true) :
    ∃ vm', Stand p l e R s m args below meth c (T.setVm vm') locs cells slots ∧ ∀ target, Steps p.tables e below ((T.setVm vm').setTop { g with pc := x.handlerPc, stack := [.ref a] }) target → Steps p.tables e below ((T.setTop g).pushFrame (.throwing a)) target := by
  subst hg
  have hpl : e.platform.magicAccessors = ({} : Platform).magicAccessors := by rw [XX.admits.platform]
  obtain ⟨c', hc', hcl⟩ := Cond.classLink_spec hown hlink e.platform hpl
  cases hC.symm.trans hc'
  obtain ⟨dk, _, _, kt, hd, _, _, _, _, hkt, _, hopen⟩ := hcl.here
  obtain ⟨kt', hkt', -⟩ := XX.warmed.alike.2.2 _ _ hkt
  have hfit' : T.vm.assignable cell.cls cell.cls = true := by rw [XX.warmed.alike.assignable]; exact hfit
  have hobj : ∀ k, cell.vm ≠ .statics k := fun k q => by rw [hvm] at q; cases q
  refine ⟨T.vm.noted g.method.cls x.catchType (.cls cell.cls), XX.noted (XX.warmed.noted hd hopen (State.rightAt_cls hcl)), fun target hrest => ?_⟩
  obtain ⟨hgo, hw⟩ := XX.here.throwing (g := g) a
  refine Steps.head hgo hw ?_
  have hfind := fun Q F d acts => fh_one (e := e) (Z := (T.setTop g).pushFrame (.throwing a)) (f := g) (a := a) (meth := meth) (cd := c) XX.method' XX.code htab hx h0 (cT := cell.cls) (cell := cell) (XX.warmed.classLinks hcl) hcell hobj ⟨kt', hkt'⟩ ⟨kt', hkt'⟩ hfit' Q F d acts
  have hstep : (stepThrowing e ((T.setTop g).pushFrame (.throwing a)) a (.java g :: T.frames.tail)).Is ((((T.setTop g).pushFrame (.throwing a)).setVm (T.vm.noted g.method.cls x.catchType (.cls cell.cls))).setFrames (.java { g with pc := x.handlerPc, stack := [.ref a] } :: T.frames.tail)) [] := by
    simp only [stepThrowing, searchFrame, vmDo]
    generalize hr : Sem.go _ e false [] ((T.setTop g).pushFrame (.throwing a)) = res
    obtain ⟨as, rfl, ha⟩ := Sem.eq_ok_of hr (a := Handler.found x.handlerPc) (s' := ((T.setTop g).pushFrame (.throwing a)).setVm (T.vm.noted g.method.cls x.catchType (.cls cell.cls))) (acts' := []) (by simp [hfind]; rfl)
    exact ⟨rfl, ha⟩
  rw [stepThread_throwing (frames_entered XX.here.top _), hstep.1]
  obtain ⟨g₀, hg₀⟩ := Option.isSome_iff_exists.mp XX.here.top
  obtain ⟨r, hr⟩ := State.topJava?_eq_some.mp hg₀
  have hr' : (T.setVm (T.vm.noted g.method.cls x.catchType (.cls cell.cls))).frames = .java g₀ :: r := hr
  rw [State.setTop_of_frames _ hr'] at hrest
  have key : ∀ (u : State) (v : Vm) (F G : List Frame), ((u.setFrames F).setVm v).setFrames G = (u.setVm v).setFrames G := fun u v F G => by
    rw [show (u.setFrames F).setVm v = (u.setVm v).setFrames F from rfl, State.setFrames_setFrames]
  rw [hr, List.tail_cons, State.pushFrame, key, State.setTop_of_frames _ hr, key]
  exact hrest
