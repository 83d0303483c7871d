/-! What makes cells: new, newarray, anewarray; contracts of constructors (ctA). -/
/-- one cell more, of kind k, z places long -/
def nw (S : hs) (k z : Nat) : hs := (S.1 + 1, va_up (hk S) S.1 k, va_up (hz S) S.1 z, fun a j => if a = S.1 then 0 else hi S a j, fun a j => if a = S.1 then 0 else hj S a j, fun a j => if a = S.1 then none else hr S a j)
/-- every reference is to a cell that is there -/
def wfS (S : hs) : Prop := ∀ a j r, hr S a j = some r → r < S.1
def okv (n : Nat) (v : av) : Prop := match v with
  | .inr (.inr (some i)) => i < n
  | _ => True
def okvs (n : Nat) : List av → Prop
  | [] => True
  | v :: t => okv n v ∧ okvs n t
def okls (n : Nat) : List (Nat × av) → Prop
  | [] => True
  | q :: t => okv n q.2 ∧ okls n t
def dfl (k : Nat) : List Value := (fty k).map (fun t => match t with | 0 => .int 0 | 1 => .long 0 | _ => .null)
theorem vl_ag {ad ad' : Nat → Nat} {n : Nat} {v : av} (h : ∀ i, i < n → ad' i = ad i) (hv : okv n v) : vl ad' v = vl ad v := by
  match v, hv with
  | .inl _, _ => rfl
  | .inr (.inl _), _ => rfl
  | .inr (.inr none), _ => rfl
  | .inr (.inr (some i)), hv => exact congrArg Value.ref (h i hv)
theorem vls_ag {ad ad' : Nat → Nat} {n : Nat} (h : ∀ i, i < n → ad' i = ad i) : ∀ {st : List av}, okvs n st → st.map (vl ad') = st.map (vl ad)
  | [], _ => rfl
  | v :: t, hv => by rw [List.map_cons, List.map_cons, vl_ag h hv.1, vls_ag h hv.2]
theorem okls_lk {n : Nat} : ∀ {lv : List (Nat × av)} {i : Nat} {v : av}, okls n lv → lkp lv i = some v → okv n v
  | [], _, _, _, h => by simp [lkp] at h
  | q :: t, i, v, ho, h => by
    by_cases hi : i = q.1
    · subst hi
      rw [show q = (q.1, q.2) from rfl, lkp_cons_eq] at h
      cases h
      exact ho.1
    · rw [show q = (q.1, q.2) from rfl, lkp_cons_ne _ _ hi] at h
      exact okls_lk ho.2 h
theorem lvh_ag {ad ad' : Nat → Nat} {n nL : Nat} {ls : Array Slot} {lv : List (Nat × av)} (h : ∀ i, i < n → ad' i = ad i) (ho : okls n lv) (hl : lvh ad nL ls lv) : lvh ad' nL ls lv :=
  ⟨hl.1, hl.2.1, fun i v hv => by rw [vl_ag h (okls_lk ho hv)]; exact hl.2.2 i v hv⟩
theorem map_ag {ad ad' : Nat → Nat} {n : Nat} (h : ∀ i, i < n → ad' i = ad i) {o : Option Nat} (ho : ∀ r, o = some r → r < n) : o.map ad' = o.map ad := by
  cases o with
  | none => rfl
  | some r => exact congrArg some (h r (ho r rfl))
theorem fvs_ag {ad ad' : Nat → Nat} {S S' : hs} {a : Nat} (hi' : hi S' a = hi S a) (hj' : hj S' a = hj S a) (hr' : hr S' a = hr S a) (hm : ∀ j, (hr S a j).map ad' = (hr S a j).map ad) : ∀ (ts : List Nat) (j : Nat), fvs S' ad' a j ts = fvs S ad a j ts
  | [], _ => rfl
  | t :: ts, j => by
    simp only [fvs, hi', hj', hr', hm, fvs_ag hi' hj' hr' hm ts (j + 1)]
theorem hcell_ag {cy : Nat → ClassId} {ad ad' : Nat → Nat} {S S' : hs} {a : Nat} (h0 : hk S' a = hk S a) (hz0 : hz S' a = hz S a) (hi' : hi S' a = hi S a) (hj' : hj S' a = hj S a) (hr' : hr S' a = hr S a) (hm : ∀ j, (hr S a j).map ad' = (hr S a j).map ad) : hcell cy ad' S' a = hcell cy ad S a := by
  unfold hcell
  rw [h0, hz0, hi', hj', hr', fvs_ag hi' hj' hr' hm, show (fun j => (hr S a j).map ad') = (fun j => (hr S a j).map ad) from funext hm]
theorem va_up_at {α : Type} (f : Nat → α) (k : Nat) (v : α) : va_up f k v k = v := by simp [va_up]
theorem va_up_off {α : Type} (f : Nat → α) {k j : Nat} (v : α) (h : j ≠ k) : va_up f k v j = f j := by simp [va_up, h]
theorem wld_nw {cy : Nat → ClassId} {ad : Nat → Nat} {S : hs} {k z q : Nat} {e : va_E} (wf : wfS S) (he : hcell cy (va_up ad S.1 q) (nw S k z) S.1 = e) : wld cy ad S ++ [(q, e)] = wld cy (va_up ad S.1 q) (nw S k z) := by
  subst he
  unfold wld
  rw [show (nw S k z).1 = S.1 + 1 from rfl, List.range_succ, List.map_append]
  congr 1
  · apply List.map_congr_left
    intro i hi0
    have hlt : i < S.1 := List.mem_range.mp hi0
    have hne : i ≠ S.1 := Nat.ne_of_lt hlt
    have e1 : va_up ad S.1 q i = ad i := va_up_off _ _ hne
    rw [e1]
    congr 1
    refine (hcell_ag (va_up_off _ _ hne) (va_up_off _ _ hne) (funext fun j => if_neg hne) (funext fun j => if_neg hne) (funext fun j => if_neg hne) (fun j => ?_)).symm
    exact map_ag (n := S.1) (fun i hi => va_up_off _ _ (Nat.ne_of_lt hi)) (fun r hr0 => wf i j r hr0)
  · simp [va_up_at]
theorem fvs_nw {S : hs} {ad : Nat → Nat} {k z : Nat} : ∀ (ts : List Nat) (j : Nat), fvs (nw S k z) ad S.1 j ts = ts.map (fun t => match t with | 0 => .int 0 | 1 => .long 0 | _ => .null)
  | [], _ => rfl
  | t :: ts, j => by
    have h1 : hi (nw S k z) S.1 j = 0 := if_pos rfl
    have h2 : hj (nw S k z) S.1 j = 0 := if_pos rfl
    have h3 : hr (nw S k z) S.1 j = none := if_pos rfl
    simp only [fvs, h1, h2, h3, fvs_nw ts (j + 1), List.map_cons]
    congr 1
theorem hk_nw {S : hs} {k z : Nat} : hk (nw S k z) S.1 = k := va_up_at _ _ _
theorem hz_nw {S : hs} {k z : Nat} : hz (nw S k z) S.1 = z := va_up_at _ _ _
theorem wfS_nw {S : hs} {k z : Nat} (h : wfS S) : wfS (nw S k z) := fun a j r hr0 => by
  by_cases ha : a = S.1
  · exact absurd ((if_pos ha).symm.trans hr0) (by simp)
  · exact Nat.lt_succ_of_lt (h a j r ((if_neg ha).symm.trans hr0))
/-! the judgement with counters: as many cells as numbers since n0, 1600 slots each -/
abbrev XA (E : en) (M : mt) (n0 : Nat) (ad : Nat → Nat) (S : hs) (pc : Nat) (lv : List (Nat × av)) (st : List av) : Prop := X E M (S.1 - n0) (1600 * (S.1 - n0)) ad S pc lv st
/-- what a method that makes cells may use: room for m cells -/
def rmA (M : mt) (S : hs) (n0 : Nat) : Prop := n0 ≤ S.1 ∧ S.1 - n0 + 1 ≤ M.2.2.2.1.cells ∧ 1600 * M.2.2.2.1.cells ≤ M.2.2.2.1.slots
/-- words of nest mates' constructors and of arrays of objects, beside the tables' -/
def xtra (U : State) : Prop := va_Nw (.methodLinkNest "AreaCrossings$Area" 27 yX2_init "AreaCrossings") U ∧ va_Nw (.methodLinkNest "AreaCrossings" 27 yX3_init "AreaCrossings") U ∧ va_Nw (.methodLinkNest "AreaCrossings" 38 yX5_init "AreaCrossings") U ∧ va_Nw (.methodLinkNest "AreaCrossings" 45 yX4_init "AreaCrossings") U ∧ va_Nw (.methodLinkNest "AreaCrossings" 52 yX1_init "AreaCrossings") U ∧ va_AO "AreaCrossings$Area" U ∧ va_AO "AreaCrossings$Ring" U ∧ va_AO "AreaCrossings$Track" U
theorem xtra.warm {s U : State} (h : xtra s) (hW : s.WarmedH U.vm) : xtra U := ⟨va_Nw.warmM hW h.1, va_Nw.warmM hW h.2.1, va_Nw.warmM hW h.2.2.1, va_Nw.warmM hW h.2.2.2.1, va_Nw.warmM hW h.2.2.2.2.1, va_AO.moved hW.alike h.2.2.2.2.2.1, va_AO.moved hW.alike h.2.2.2.2.2.2.1, va_AO.moved hW.alike h.2.2.2.2.2.2.2⟩
theorem xtra.same {s U : State} (h : xtra s) (e : s.vm = U.vm) : xtra U := ⟨h.1.same rfl e, h.2.1.same rfl e, h.2.2.1.same rfl e, h.2.2.2.1.same rfl e, h.2.2.2.2.1.same rfl e, va_AO.moved (e ▸ Vm.Alike.refl s.vm) h.2.2.2.2.2.1, va_AO.moved (e ▸ Vm.Alike.refl s.vm) h.2.2.2.2.2.2.1, va_AO.moved (e ▸ Vm.Alike.refl s.vm) h.2.2.2.2.2.2.2⟩
section
variable {E : en} {M : mt} {n0 : Nat} {ad : Nat → Nat} {S : hs} {pc : Nat} {lv : List (Nat × av)} {st : List av}
/-- behind a cell that is made -/
theorem x_made {k z N q : Nat} {e : va_E} {H1 : Heap} {locs : List Loc} {ls : Array Slot} (hO : okE E M) (hr0 : rmA M S n0) (hN : N ≤ 1600) (wf : wfS S) (wl : okls S.1 lv) (wv : okvs S.1 st) (he : hcell E.1.2.2.1 (va_up ad S.1 q) (nw S k z) S.1 = e) (hl : lvh ad M.2.2.1 ls lv)
    (hP : va_P E.1.2.1 vwCl (wld E.1.2.2.1 ad S ++ [(q, e)]) H1) (hD : va_D (fun q => E.1.2.2.2 ≤ q) (wld E.1.2.2.1 ad S ++ [(q, e)])) (hS : va_S (fun q => E.1.2.2.2 ≤ q) E.2.1.2.2.1.heap H1 locs) {pc' : Nat}
    (kk : ∀ q, XA E M n0 (va_up ad S.1 q) (nw S k z) pc' lv (aA S.1 :: st)) : W E.2.1.1 E.1.1 E.2.1.2.1 M.2.2.2.1 E.2.1.2.2.1 E.2.1.2.2.2.1 E.2.2.1 E.2.1.2.2.2.2.1 E.2.1.2.2.2.2.2.1 E.2.1.2.2.2.2.2.2 H1 locs (S.1 - n0 + 1) (1600 * (S.1 - n0) + N) E.2.2.2 (F0 E.2.1.2.2.2.1 pc' ls (.ref q :: st.map (vl ad))) := by
  rw [wld_nw wf he] at hP hD
  have hag : ∀ i, i < S.1 → va_up ad S.1 q i = ad i := fun i hi => va_up_off _ _ (Nat.ne_of_lt hi)
  have e1 : (nw S k z).1 - n0 = S.1 - n0 + 1 := by show S.1 + 1 - n0 = _; have := hr0.1; omega
  have h := kk q hO H1 locs ls ⟨hP, hD, hS⟩ (lvh_ag hag wl hl)
  rw [e1] at h
  have e2 : (aA S.1 :: st).map (vl (va_up ad S.1 q)) = Value.ref q :: st.map (vl ad) := by
    rw [List.map_cons, vls_ag hag wv]
    exact congrArg (fun z => Value.ref z :: st.map (vl ad)) (va_up_at _ _ _)
  rw [e2] at h
  exact W.widen (Nat.le_refl _) (by omega) h
theorem x_newO {k idx N : Nat} {C : String} {T : u_T} (ty : Nat → FieldType) (hc : vwCl[k + 1]? = some (C, T, N)) (hk8 : k < 8) (hty : ∀ j, j < N → parseFieldDescriptor (T j).2.2.1 = some (ty j)) (hin : ∀ w ∈ u_ws C T N, w ∈ tbG) (hdf : ∀ j, j < N → defaultValue (ty j) = vp_V (dfl k) j) (hN : N ≤ 1600)
    (w1 : Cond.classLink M.1.cls idx C ∈ lw_tbl) (w2 : Cond.instantiable C N ∈ lw_tbl) (w3 : Cond.initialized C ∈ lw_tbl) (hd : decode M.2.1 pc = .ok (.new idx, 3)) (hr0 : rmA M S n0) (wf : wfS S) (wl : okls S.1 lv) (wv : okvs S.1 st)
    (kk : ∀ q, XA E M n0 (va_up ad S.1 q) (nw S k 0) (pc + 3) lv (aA S.1 :: st)) : XA E M n0 ad S pc lv st := by
  intro hO H locs ls hW hl
  refine va_new (ci := k + 1) (fs := dfl k) hO.1 hO.2.1 hO.2.2.2.2.1 hin ty hty hO.2.2.2.1 (hO.2.2.2.2.1 _ (tbG_in w1 rfl)) (hO.2.2.2.2.1 _ (tbG_in w2 rfl)) (hO.2.2.2.2.1 _ (tbG_in w3 rfl)) hO.2.2.2.2.2.1 hW.1 hW.2.1 hW.2.2 (fun q hq => Nat.le_trans hO.2.2.2.2.2.2.1 hq) hc hdf hr0.2.1 (by have := hr0.2; omega) hd (fun q H1 hP hD hS => ?_)
  exact x_made hO hr0 hN wf wl wv ((hcell_o k hk_nw hk8).trans (congrArg (fun l => (Sum.inr (k + 1, l) : va_E)) (fvs_nw (fty k) 0))) hl hP hD hS kk
theorem cA_eq {cy : Nat → ClassId} {D : va_G} {U : State} {cA : ClassId} {ty : FieldType} (t0 : Nat) (c0 : ClassId) (ht : (tyl cy)[t0]? = some (c0, ty)) (hf : ∀ c1 : ClassId, va_RA U c1 ty → U.vm.findClass ("[" ++ ty.toString) = some c1) (hK : va_K D vwCl (tyl cy ++ [(cA, ty)]) U) : cA = c0 := by
  have hl : t0 < (tyl cy).length := (List.getElem?_eq_some_iff.mp ht).1
  have h1 := (hK.2 t0 (c0, ty) (by rw [List.getElem?_append_left hl]; exact ht)).2
  have h2 := (hK.2 (tyl cy).length (cA, ty) (by simp)).2
  exact Option.some.inj ((hf _ h2).symm.trans (hf _ h1))
theorem x_newa {at0 : ArrayType} {ty : FieldType} {n : Int32} {N k t0 : Nat} {a0 : vp_A} (hw : Cond.arrayClass ty ∈ lw_tbl) (hty : newarray.typeOf at0 = ty) (ht : ∀ cy : Nat → ClassId, (tyl cy)[t0]? = some (cy k, ty)) (hf : ∀ (U : State) (c1 : ClassId), va_RA U c1 ty → U.vm.findClass ("[" ++ ty.toString) = some c1)
    (ha : ∀ cA : ClassId, vp_cell cA a0 = arrV cA N (fun _ => defaultValue ty)) (he : ∀ (cy : Nat → ClassId) (ad : Nat → Nat), hcell cy ad (nw S k N) S.1 = .inl (cy k, a0)) (hn : ¬ n < 0) (hN : n.toNatClampNeg = N) (hN2 : N ≤ 1600) (hb : N * componentBytes ty ≤ 536870912)
    (hd : decode M.2.1 pc = .ok (.newarray at0, 2)) (hr0 : rmA M S n0) (wf : wfS S) (wl : okls S.1 lv) (wv : okvs S.1 st)
    (kk : ∀ q, XA E M n0 (va_up ad S.1 q) (nw S k N) (pc + 2) lv (aA S.1 :: st)) : XA E M n0 ad S pc lv (aI n :: st) := by
  intro hO H locs ls hW hl
  refine va_newa (a0 := a0) hO.1 hO.2.1 (by rw [hty]; exact hO.2.2.2.2.1 _ (tbG_in hw rfl)) hty hO.2.2.2.2.2.1 hW.1 hW.2.1 hW.2.2 (fun q hq => Nat.le_trans hO.2.2.2.2.2.2.1 hq) ha hn hN hb hr0.2.1 (by have := hr0.2; omega) hd (fun q cA H1 hK hP hD hS => ?_)
  obtain rfl := cA_eq t0 (E.1.2.2.1 k) (ht _) (hf _) hK
  exact x_made hO hr0 hN2 wf wl wv (he _ _) hl hP hD hS kk
theorem x_newq {C : String} {n : Int32} {N k t0 idx : Nat} (hk11 : 11 ≤ k) (ht : ∀ cy : Nat → ClassId, (tyl cy)[t0]? = some (cy k, .object C)) (w1 : Cond.classLink M.1.cls idx C ∈ lw_tbl) (hAO : va_AO C E.2.1.2.2.1) (hn : ¬ n < 0) (hN : n.toNatClampNeg = N) (hN2 : N ≤ 1600)
    (hd : decode M.2.1 pc = .ok (.anewarray idx, 3)) (hr0 : rmA M S n0) (wf : wfS S) (wl : okls S.1 lv) (wv : okvs S.1 st)
    (kk : ∀ q, XA E M n0 (va_up ad S.1 q) (nw S k N) (pc + 3) lv (aA S.1 :: st)) : XA E M n0 ad S pc lv (aI n :: st) := by
  intro hO H locs ls hW hl
  refine va_newq hO.1 hO.2.1 hO.2.2.2.1 (hO.2.2.2.2.1 _ (tbG_in w1 rfl)) hAO hO.2.2.2.2.2.1 hW.1 hW.2.1 hW.2.2 (fun q hq => Nat.le_trans hO.2.2.2.2.2.2.1 hq) hn hN (by omega) hr0.2.1 (by have := hr0.2; omega) hd (fun q cA H1 hK hP hD hS => ?_)
  obtain rfl := cA_eq t0 (E.1.2.2.1 k) (ht _) (fun c1 h => by obtain ⟨_, _, _, _, _, h4⟩ := h; exact h4) hK
  refine x_made hO hr0 hN2 wf wl wv ?_ hl hP hD hS kk
  rw [hcell_r k hk_nw hk11, hz_nw]
  have e3 : (fun j => (hr (nw S k N) S.1 j).map (va_up ad S.1 q)) = (fun _ => (none : Option Nat)) := funext fun j => by
    rw [show hr (nw S k N) S.1 j = none from if_pos rfl]; rfl
  rw [e3]
theorem x_objI {idx a : Nat} {n1 n2 : Nat} (w1 : Cond.methodLink M.1.cls idx Lib.objectInit ∈ lw_tbl) (w2 : Cond.instanceMethod Lib.objectInit ∈ lw_tbl) (w3 : Cond.code Lib.objectInit ⟨#[0xb1]⟩ 1 none ∈ lw_tbl) (hR : 1 ≤ M.2.2.2.1.frames ∧ 20 ≤ M.2.2.2.1.locals) (hd : decode M.2.1 pc = .ok (.invokespecial idx, 3)) (hs0 : slen st ≤ 8) (k : X E M n1 n2 ad S (pc + 3) lv st) : X E M n1 n2 ad S pc lv (aA a :: st) := by
  intro hO H locs ls hW hl
  refine W.objInit hO.1 hO.2.1 hO.2.2.2.1 (hO.2.2.2.2.1 _ (tbG_in w1 rfl)) (hO.2.2.2.2.1 _ (tbG_in w2 rfl)) (hO.2.2.2.2.1 _ (tbG_in w3 rfl)) rfl (by rw [hO.2.2.1]; exact hl.1) rfl hd hR.1 ?_ (k hO H locs ls hW hl)
  have h := lv_room (m := E.2.1.2.2.2.1) (pc := pc) (ls := ls) (rest := (aA a :: st).map (vl ad)) (st := st.map (vl ad)) (by rw [slen_sum]; exact hs0)
  have := hR.2
  omega
end
