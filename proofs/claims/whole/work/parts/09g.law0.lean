def R_law : String := "AreaCrossingsLaw"
def lw_P (b : Addr) (xs : List Int32) (args : Array Value) (s : State) : Prop := args = #[.ref b] ∧ s.IntsAt b xs ∧ xs.length ≤ 4097 ∧ (Jvm.Cond.and given_1 narrow_1).before args s = true
def lw_Q (_ : Array Value) (s : State) (o : Outcome) (t : State) : Prop := o = .returned (some (.int 1)) ∧ Framed s o t [] 601024 7293000
def lw_Z (below : List Frame) (a : Array Value) (s : State) : State → Prop := fun t => ∃ o, t.status = .running ∧ Ended t below o ∧ lw_Q a s o t
/-- the law's own end, with 1 on the stack, nothing written that was there before, its room as the claim has it -/
theorem lw_ret {p : Program} {l : Launch} {e : Env} {s : State} {m : MethodId} {below : List Frame} {meth : Method} {c : Code} {b : Nat} (hx : p.tables.exec = Jvm.exec) (hb : c.code = code) (hr : meth.sig.returnType = ret) (hlocks : meth.locks = false) {pc : Nat} {H : Heap} {ls : Array Slot} (hdg : decode code pc = .ok (.ireturn, 1)) : W p l e room_1 s m #[Value.ref b] below meth c H [] 601024 7293000 (lw_Z below #[Value.ref b] s) (F0 m pc ls [.int 1]) := by
  intro T hT X
  obtain ⟨fs, hret, hrun, hended, hW, hframe⟩ := X.leave (v := some (.int 1)) (hlocks := hlocks) (fun h => by rw [hr] at h; cases h)
  have hmeth' : T.vm.method? m = some meth := X.method'
  refine ⟨T.setFrames fs, ?_, .returned (some (.int 1)), hrun, hended, rfl, ⟨_, rfl⟩, hW, hframe⟩
  jvm_step X.here [X.here.top, hx, hb, hdg, hmeth', hr, ret, narrow_b1]
  (try refine ⟨rfl, ?_⟩); (try refine ⟨rfl, ?_⟩)
  first | (intro acts; rw [hret _ acts rfl rfl rfl]) | rw [hret _ _ rfl rfl rfl]
  exact Steps.refl _
/-- what holds at the law's entry: the machine, the code, the tables' words (any of lw_tbl by 'hts w (by decide +kernel)'), the script of L ints xs at the cell b, what the Statement gives of the start (any of its parts by flat_of_before) -/
def lw_At (p : Program) (s : State) (m : MethodId) (meth : Method) (c : Code) (b L : Nat) (xs : Nat → Int32) : Prop :=
  p.tables.exec = Jvm.exec ∧ c.code = code ∧ meth.sig.returnType = ret ∧ c.maxLocals = 7 ∧ s.vm.findClass R_law = some m.cls ∧ (∀ w ∈ lw_tbl, w.before #[Value.ref b] s = true) ∧ va_X b L xs s s.heap ∧ b < s.heap.size ∧ meth.locks = false ∧ (Jvm.Cond.and given_1 narrow_1).before #[Value.ref b] s = true
/-! the law's end in the picture -/
abbrev mL_law : mt := (yL_law, cL_law, 7, room_1, ret)
def lawE (E : en) (ad : Nat → Nat) (L : Nat) (xs : Nat → Int32) : Prop := E.2.2.1 = #[Value.ref (ad SC)] ∧ E.2.2.2 = lw_Z E.2.1.2.2.2.2.1 #[Value.ref (ad SC)] E.2.1.2.2.1 ∧ scr E ad L xs
theorem xL_end {E : en} {ad : Nat → Nat} {L : Nat} {xs : Nat → Int32} (hL : lawE E ad L xs) {n1 n2 : Nat} {S : hs} {lv : List (Nat × av)} {pc : Nat} (hf : n1 ≤ 601024 ∧ n2 ≤ 7293000) (hd : decode code pc = .ok (.ireturn, 1)) : X E mL_law n1 n2 ad S pc lv [aI 1] := by
  intro hO H locs ls hW hl
  obtain ⟨h1, h2, h3⟩ := hL
  rw [h1, h2]
  refine va_forget (fun q hq => ?_) ?_
  · have := hW.2.2.2.2 q hq
    rw [← h3.2.2]
    exact this
  refine W.widen (k := 601024) (n := 7293000) hf.1 hf.2 ?_
  exact lw_ret hO.1 hO.2.1 hO.2.2.2.2.2.2.2.2.1 hO.2.2.2.2.2.2.2.2.2 hd
section
variable {E : en} {M : mt} {n1 n2 : Nat} {ad : Nat → Nat} {S : hs} {pc : Nat} {lv : List (Nat × av)} {st : List av} {Post : Option av → hs → Prop}
/-- behind a call that may make cells beside the picture -/
theorem x_backM {mc ms : Nat} {As : List av} {stk : List Value} (hr : ∀ H locs ls, okE E M → wd E ad S H locs → lvh ad M.2.2.1 ls lv → va_Run E.2.1.1 E.1.1 E.2.1.2.1 M.2.2.2.1 E.2.1.2.2.1 E.2.1.2.2.2.1 E.2.2.1 E.2.1.2.2.2.2.1 E.2.1.2.2.2.2.2.1 E.2.1.2.2.2.2.2.2 H locs n1 n2 mc ms (F0 E.2.1.2.2.2.1 pc ls stk) (st.map (vl ad)) (qN E.1 ad Post (As.map (vl ad)).toArray) (fun q => E.1.2.2.2 ≤ q))
    (kk : ∀ r S', Post r S' → X E M (n1 + mc) (n2 + ms) ad S' (pc + 3) lv (r.toList ++ st)) (hO : okE E M) (H : Heap) (locs : List Loc) (ls : Array Slot) (hW : wd E ad S H locs) (hl : lvh ad M.2.2.1 ls lv) : W E.2.1.1 E.1.1 E.2.1.2.1 M.2.2.2.1 E.2.1.2.2.1 E.2.1.2.2.2.1 E.2.2.1 E.2.1.2.2.2.2.1 E.2.1.2.2.2.2.2.1 E.2.1.2.2.2.2.2.2 H locs n1 n2 E.2.2.2 (F0 E.2.1.2.2.2.1 pc ls stk) := by
  intro T hT XX
  obtain ⟨v, st₀, t, T', L, h0, X', hL, e1, e2, ⟨⟨r, S', hv, hp, hP, hK, hD⟩, hz, hk⟩, hst⟩ := hr H locs ls hO hW hl T hT XX
  have hv : v = r.map (vl ad) := Outcome.returned.inj hv
  subst hv
  rw [h0] at hz hk
  have hS := hW.2.2
  have hS' : va_S (fun q => E.1.2.2.2 ≤ q) E.2.1.2.2.1.heap T'.heap (locs ++ L) := ⟨Nat.le_trans hS.1 (by rw [e1]; exact hz), fun q h1 h2 => by rw [e1, hk q (Nat.lt_of_lt_of_le h1 hS.1) h2]; exact hS.2.1 q h1 h2, fun q hq => by
      rcases List.mem_append.mp hq with h | h
      · exact hS.2.2 q h
      · exact hL q h⟩
  obtain ⟨t2, a1, b1⟩ := kk r S' hp hO T'.heap (locs ++ L) ls ⟨by rw [e1]; exact hP, hD, hS'⟩ hl T' rfl X'
  refine ⟨t2, hst t2 ?_, b1⟩
  have e3 : (r.toList ++ st).map (vl ad) = (r.map (vl ad)).toList ++ st.map (vl ad) := by
    cases r <;> simp
  rw [e3] at a1
  exact a1
/-- a contract that asks Z of the state too, and may make cells beside the picture -/
def pZ (G : Launch × va_G × (Nat → ClassId) × Nat) (Z : State → Prop) (ad : Nat → Nat) (As : List av) (S : hs) : Array Value → State → Prop := fun v U => pN G ad As S v U ∧ Z U
def ctZ (G : Launch × va_G × (Nat → ClassId) × Nat) (M : mt) (Z : State → Prop) (As : List av) (S : hs) (Post : Option av → hs → Prop) : Prop :=
  ∀ ad, Met G.1 M.1 (Cond.code M.1 M.2.1 M.2.2.1 M.2.2.2.2 :: tbG) M.2.2.2.1 (pZ G Z ad As S) (qN G ad Post) M.2.2.2.1.cells M.2.2.2.1.slots (fun q => G.2.2.2 ≤ q)
def blindZ (Z : State → Prop) : Prop := ∀ (U : State) (g : JFrame) (mk : MethodId) (a : Array Value), Z U → Z (U.calling g mk a)
/-- Z holds at every state that the walk may call from -/
def heldZ (E : en) (Z : State → Prop) : Prop := ∀ (U : State) (locs : List Loc), va_S (fun q => E.1.2.2.2 ≤ q) E.2.1.2.2.1.heap U.heap locs → E.2.1.2.2.1.WarmedH U.vm → Z U
/-- what the call of it needs of words (its code has handlers: 'codeWith' would be another word; here the plain one) and room -/
theorem x_callZ {Mc : mt} {Z : State → Prop} {own : String} {idx n : Nat} {As : List av} {P : Int32 → hs → Prop} (hZ : heldZ E Z) (hZb : blindZ Z) (hc : cokS own Mc idx n) (hM : M.1.cls = own) (hR : cokRA M Mc) (hd : decode M.2.1 pc = .ok (.invokestatic idx, 3)) (hn : As.length = n) (hs0 : slen st ≤ 8) (hf : n1 + Mc.2.2.2.1.cells ≤ M.2.2.2.1.cells ∧ n2 + Mc.2.2.2.1.slots ≤ M.2.2.2.1.slots) (hC : ctZ E.1 Mc Z As S (pI P))
    (kk : ∀ x S', P x S' → X E M (n1 + Mc.2.2.2.1.cells) (n2 + Mc.2.2.2.1.slots) ad S' (pc + 3) lv (aI x :: st)) : X E M n1 n2 ad S pc lv (As.reverse ++ st) := by
  subst hM
  intro hO H locs ls hW hl
  rw [List.map_append, List.map_reverse]
  exact x_backM (As := As) (fun H locs ls hO hW hl => va_runS (n := n) (As := As.map (vl ad)) (rest := st.map (vl ad)) ⟨hO.1, hO.2.1, hO.2.2.1, hO.2.2.2.1, hO.2.2.2.2.1⟩ (hC ad) ⟨callB_a hO hc.1 hR, hO.2.2.2.2.1 _ (tbG_in hc.2 rfl)⟩ ⟨fun a U g mk q => ⟨pN_blind a U g mk q.1, hZb U g mk a q.2⟩, fun U hU hw => ⟨pN_at hO hW U hU hw, hZ U locs (by rw [hU]; exact hW.2.2) hw⟩⟩ rfl (by rw [List.length_map]; exact hn) hl.1 rfl (lv_room (by rw [slen_sum]; exact hs0)) hd hf) (fun r S' h => by obtain ⟨x, rfl, h⟩ := h; exact kk x S' h) hO H locs ls hW hl
end
