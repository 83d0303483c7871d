/-! What a throw of the class's own needs beside the tables: kept along the calls -/
def eN : List String := ["java/lang/IndexOutOfBoundsException", "java/lang/RuntimeException", "java/lang/Exception"]
def eX : String := "java/lang/ArrayIndexOutOfBoundsException"
/-- a static of Throwable's: it lies below base, and holds a reference or null -/
def stt (base : Nat) (f d : String) (U : State) : Prop := ∃ (c : ClassId) (k : Class) (i : Nat) (fd : Field) (a : Nat) (cell : Cell) (v : Value), U.vm.findClass Bundle.tN = some c ∧ U.fieldFound? Bundle.tN f d = some (c, k, i, fd) ∧ fd.isStatic = true ∧ k.statics = some a ∧ a < base ∧ U.heap[a]? = some cell ∧ cell.vm.isStatics = true ∧ cell.cls = c ∧ fd.slot < cell.slots.size ∧ k.staticTypes[fd.slot]? = some fd.type ∧ cell.slots[fd.slot]? = some v ∧ (v = .null ∨ ∃ x, v = .ref x)
theorem stt.lay {base : Nat} {f d : String} {U : State} {args : Array Value} (h : stt base f d U) : (Cond.laysStatic Bundle.tN f d).before args U = true := by
  obtain ⟨c, k, i, fd, a, cell, v, hc, hf, hst, hsta, -, hcell, hiss, hcls, hlt, hty, -, -⟩ := h
  simp [Cond.before, Cond.holds, Cond.value, hc, hf, hst, hsta, hcell, hiss, hcls, hlt, hty]
theorem stt.ref {base : Nat} {f d : String} {U : State} {args : Array Value} (h : stt base f d U) : (Cond.isRef (.static Bundle.tN f d)).before args U = true := by
  obtain ⟨c, k, i, fd, a, cell, v, hc, hf, hst, hsta, -, hcell, hiss, hcls, hlt, hty, hv, hr⟩ := h
  have he : (Term.static Bundle.tN f d).eval args U none [] U = some v := by
    simp [Term.eval, State.fieldNamed?, hf, hst, hsta, hcell, hiss, hv]
  simp only [Cond.before, Cond.holds, Cond.value, he]
  rcases hr with e | ⟨x, e⟩ <;> simp [e]
theorem stt.of {f d : String} {U : State} {args : Array Value} (h1 : (Cond.laysStatic Bundle.tN f d).before args U = true) (h2 : (Cond.isRef (.static Bundle.tN f d)).before args U = true) : stt U.heap.size f d U := by
  obtain ⟨c, k, i, fd, a, cell, hc, hf, hst, hsta, hcell, hiss, hcls, hlt, hty⟩ := Cond.laysStatic_spec h1
  have hv : cell.slots[fd.slot]? = some cell.slots[fd.slot] := Array.getElem?_eq_getElem hlt
  have he : (Term.static Bundle.tN f d).eval args U none [] U = some cell.slots[fd.slot] := by
    simp [Term.eval, State.fieldNamed?, hf, hst, hsta, hcell, hiss, hv]
  refine ⟨c, k, i, fd, a, cell, cell.slots[fd.slot], hc, hf, hst, hsta, (Array.getElem?_eq_some_iff.mp hcell).1, hcell, hiss, hcls, hlt, hty, hv, ?_⟩
  simp only [Cond.before, Cond.holds, Cond.value, he] at h2
  generalize cell.slots[fd.slot] = v at h2
  cases v with
  | null => exact Or.inl rfl
  | ref x => exact Or.inr ⟨x, rfl⟩
  | _ => simp at h2
theorem stt.move {base : Nat} {f d : String} {s U : State} (h : stt base f d s) (hal : s.vm.Alike U.vm) (hk : ∀ q, q < base → U.heap[q]? = s.heap[q]?) : stt base f d U := by
  obtain ⟨c, k, i, fd, a, cell, v, hc, hf, hst, hsta, hlb, hcell, hiss, hcls, hlt, hty, hv, hr⟩ := h
  obtain ⟨k', hf', he⟩ := State.fieldFound?_setVm (s := s) hal hf
  refine ⟨c, k', i, fd, a, cell, v, by rw [hal.findClass]; exact hc, by simpa only [State.fieldFound?, State.vm_setVm] using hf', hst, ?_, hlb, by rw [hk a hlb]; exact hcell, hiss, hcls, hlt, ?_, hv, hr⟩
  · rw [he]; exact hsta
  · rw [he]; exact hty
def thX (base : Nat) (U : State) : Prop := (va_Nw (.declares (Bundle.init0 "java/lang/IndexOutOfBoundsException")) U ∧ va_Nw (.declares (Bundle.init0 "java/lang/RuntimeException")) U ∧ va_Nw (.declares (Bundle.init0 "java/lang/Exception")) U ∧ va_Nw (.declares (Bundle.init0 "java/lang/Throwable")) U ∧ va_Nw (.castable eX eX) U) ∧ stt base "UNASSIGNED_STACK" "[Ljava/lang/StackTraceElement;" U ∧ stt base "SUPPRESSED_SENTINEL" "Ljava/util/List;" U
theorem thX.move {base : Nat} {s U : State} (h : thX base s) (hW : s.WarmedH U.vm) (hk : ∀ q, q < base → U.heap[q]? = s.heap[q]?) : thX base U := ⟨⟨va_Nw.warmD hW h.1.1, va_Nw.warmD hW h.1.2.1, va_Nw.warmD hW h.1.2.2.1, va_Nw.warmD hW h.1.2.2.2.1, va_Nw.warmC hW h.1.2.2.2.2⟩, h.2.1.move hW.alike hk, h.2.2.move hW.alike hk⟩
theorem ow_words : ∀ w ∈ Bundle.ownAtoms0 RX6 66 eX eN, w ∈ tbG ∨ w ∈ [Cond.declares (Bundle.init0 "java/lang/IndexOutOfBoundsException"), Cond.declares (Bundle.init0 "java/lang/RuntimeException"), Cond.declares (Bundle.init0 "java/lang/Exception"), Cond.declares (Bundle.init0 "java/lang/Throwable"), Cond.castable eX eX, Cond.laysStatic Bundle.tN "UNASSIGNED_STACK" "[Ljava/lang/StackTraceElement;", Cond.laysStatic Bundle.tN "SUPPRESSED_SENTINEL" "Ljava/util/List;", Cond.isRef (.static Bundle.tN "UNASSIGNED_STACK" "[Ljava/lang/StackTraceElement;"), Cond.isRef (.static Bundle.tN "SUPPRESSED_SENTINEL" "Ljava/util/List;")] := by
  intro w hw
  have h : ∀ w ∈ Bundle.ownAtoms0 RX6 66 eX eN, (w ∈ lw_tbl ∧ goodWord w = true) ∨ w ∈ [Cond.declares (Bundle.init0 "java/lang/IndexOutOfBoundsException"), Cond.declares (Bundle.init0 "java/lang/RuntimeException"), Cond.declares (Bundle.init0 "java/lang/Exception"), Cond.declares (Bundle.init0 "java/lang/Throwable"), Cond.castable eX eX, Cond.laysStatic Bundle.tN "UNASSIGNED_STACK" "[Ljava/lang/StackTraceElement;", Cond.laysStatic Bundle.tN "SUPPRESSED_SENTINEL" "Ljava/util/List;", Cond.isRef (.static Bundle.tN "UNASSIGNED_STACK" "[Ljava/lang/StackTraceElement;"), Cond.isRef (.static Bundle.tN "SUPPRESSED_SENTINEL" "Ljava/util/List;")] := by decide +kernel
  exact (h w hw).elim (fun q => Or.inl (tbG_in q.1 q.2)) Or.inr
theorem ow_hold {base : Nat} {U : State} {args : Array Value} (hts : ∀ w ∈ tbG, w.before args U = true) (h : thX base U) : ∀ w ∈ Bundle.ownAtoms0 RX6 66 eX eN, w.before args U = true := by
  intro w hw
  rcases ow_words w hw with q | q
  · exact hts w q
  · simp only [List.mem_cons, List.not_mem_nil, or_false] at q
    rcases q with rfl | rfl | rfl | rfl | rfl | rfl | rfl | rfl | rfl
    · exact va_Nw.use rfl h.1.1
    · exact va_Nw.use rfl h.1.2.1
    · exact va_Nw.use rfl h.1.2.2.1
    · exact va_Nw.use rfl h.1.2.2.2.1
    · exact va_Nw.use rfl h.1.2.2.2.2
    · exact h.2.1.lay
    · exact h.2.2.lay
    · exact h.2.1.ref
    · exact h.2.2.ref
