/-! a call walked in its own frame, without a contract -/
theorem inl_run {p : Program} {l : Launch} {e : Env} {R : Room} {s : State} {m : MethodId} {args : Array Value} {below : List Frame} {meth : Method} {c : Code} {T : State} {locs : List Loc} {cells slots : Nat} (XX : Stand p l e R s m args below meth c T locs cells slots) {g : JFrame} (hg : g.method = m) (hsize : g.locals.size = c.maxLocals) {ig : Instr} {len : Nat} (hdg : decode c.code g.pc = .ok (ig, len))
    {mk : MethodId} {methk : Method} {ck : Code} {a : Array Value} {R' : Room} (hmk : T.vm.method? mk = some methk) (hck : methk.code = some ck) (hlk : methk.locks = false) (hpk : T.plainMethod mk)
    (hframes : R'.frames + 1 ≤ R.frames) (hlocals : 2 * g.monitorRoom + (g.stack.map fun v => v.category).sum + (ck.maxLocals + 11) + R'.locals ≤ R.locals) (hcells : cells + R'.cells ≤ R.cells) (hslots : slots + R'.slots ≤ R.slots) {Q : State → Prop}
    (hW : W p l e R' (T.calling g mk a) mk a (.java g :: below) methk ck T.heap [] 0 0 Q (entryFrame mk a ck.maxLocals)) : ∃ t, Q t ∧ ∀ acts, Steps p.tables e below (doInvoke e (T.setTop g) acts mk a).1 t := by
  obtain ⟨Y, hin⟩ := XX.into hg hsize hdg a (R' := R') hmk hck hlk hpk hframes hlocals hcells hslots
  obtain ⟨t, st, hq⟩ := hW ((T.setTop g).pushFrame (.java (entryFrame mk a ck.maxLocals))) rfl Y
  exact ⟨t, hq, fun acts => by rw [hin acts]; exact Steps.weaken (mid := [.java g]) st⟩
/-- the tables' words and classes, at the state in which the call is made -/
theorem okE_in {E : en} {M Mc : mt} (hO : okE E M) {T : State} (hwm : E.2.1.2.2.1.WarmedH T.vm) (hsz : E.1.2.2.2 ≤ T.heap.size) {g : JFrame} {mk : MethodId} {methk : Method} {ck : Code} {a : Array Value} {Q : State → Prop} {bl : List Frame} (hn : T.methodNamed? Mc.1 = some mk) (hm : T.vm.method? mk = some methk) (h1 : ck.code = Mc.2.1) (h2 : ck.maxLocals = Mc.2.2.1) (h3 : methk.sig.returnType = Mc.2.2.2.2) (h4 : methk.locks = false) :
    okE (E.1, (E.2.1.1, E.2.1.2.1, T.calling g mk a, mk, bl, methk, ck), a, Q) Mc := by
  refine ⟨hO.1, h1, h2, ?_, fun w hw => ?_, va_K.moved (u := E.2.1.2.2.1) (U := T.calling g mk a) hwm.alike hO.2.2.2.2.2.1, hsz, (name_of_methodNamed hn hm).1, h3, h4⟩
  · exact findClass_of_methodNamed hn
  · exact word_at (s := E.2.1.2.2.1) (U := T.calling g mk a) hwm (good_of_word (tbG_good w hw)) (hO.2.2.2.2.1 w hw)
theorem plain_in {U : State} {y : MethodName} {mk : MethodId} (hn : U.methodNamed? y = some mk) (hp : plainName y.cls = true) : U.plainMethod mk := by
  obtain ⟨k, hk, hname⟩ := className_of_methodNamed hn
  intro k' hk'
  cases hk.symm.trans hk'
  exact plain_of_name (by rw [hname]; exact hp)
