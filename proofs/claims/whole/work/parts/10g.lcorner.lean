/-! the law's own corner: calls the class's, catches what it throws -/
abbrev mL_corner : mt := (yL_corner, cL_corner, 8, { frames := 8, cells := 1, slots := 6, locals := 120 }, (some .int))
theorem wc_c : Cond.code yX6_corner cX6_corner 6 (some .boolean) ∈ lw_tbl := List.mem_append_right _ (List.mem_of_getElem? (i := 664) (by decide +kernel))
theorem wc_i : Cond.instanceMethod yX6_corner ∈ lw_tbl := List.mem_append_right _ (List.mem_of_getElem? (i := 662) (by decide +kernel))
theorem wc_s : Cond.selects RX6 yX6_corner yX6_corner ∈ lw_tbl := List.mem_append_right _ (List.mem_of_getElem? (i := 663) (by decide +kernel))
theorem wc_l : Cond.methodLink RL 7 yX6_corner ∈ lw_tbl := List.mem_append_right _ (List.mem_of_getElem? (i := 661) (by decide +kernel))
theorem wc_e : Cond.classLink RL 13 eX ∈ lw_tbl := List.mem_append_right _ (List.mem_of_getElem? (i := 660) (by decide +kernel))
theorem wc_w : Cond.codeWith yL_corner cL_corner 8 (some .int) [(0, 20, 23, 13)] ∈ lw_tbl := List.mem_append_right _ (List.mem_of_getElem? (i := 659) (by decide +kernel))
theorem wc_t : Cond.static yL_corner ∈ lw_tbl := List.mem_append_right _ (List.mem_of_getElem? (i := 658) (by decide +kernel))
theorem wc_n : goodWord (Cond.codeWith yL_corner cL_corner 8 (some .int) [(0, 20, 23, 13)]) = true := rfl
/-- at the end, with room for one cell of six slots -/
theorem x_iretM {E : en} {M : mt} {ad : Nat → Nat} {S : hs} {pc : Nat} {lv : List (Nat × av)} {Post : Option av → hs → Prop} {x : Int32} (hQ : E.2.2.2 = MQ E.2.1.2.2.2.2.1 (qN E.1 ad Post) E.2.2.1 E.2.1.2.2.1 1 6 (fun q => E.1.2.2.2 ≤ q)) (hr0 : M.2.2.2.2 = some .int) (hd : decode M.2.1 pc = .ok (.ireturn, 1)) (h : Post (some (aI x)) S) : X E M 1 6 ad S pc lv [aI x] := by
  intro hO H locs ls hW hl
  rw [hQ]
  exact W.iret hO.1 hO.2.1 (hO.2.2.2.2.2.2.2.2.1.trans hr0) (qN_of (r := some (aI x)) hO hW h) hW.2.2.2.2 hd hO.2.2.2.2.2.2.2.2.2
set_option maxHeartbeats 4000000 in
theorem wL_corner {E : en} {ad : Nat → Nat} {P : Int32 → hs → Prop} {v0 : Nat} {v1 : Int32} {v2 v4 : Int64} {v6 : Nat} {S : hs} (hfl : E.1.1.flags = flags0) (hQ : E.2.2.2 = MQ E.2.1.2.2.2.2.1 (qN E.1 ad (pI P)) E.2.2.1 E.2.1.2.2.1 1 6 (fun q => E.1.2.2.2 ≤ q)) (hT0 : thX E.1.2.2.2 E.2.1.2.2.1)
    (htab : E.2.1.2.2.2.2.2.2.exceptionTable.toList.map (fun h => (h.startPc, h.endPc, h.handlerPc, h.catchType)) = [(0, 20, 23, 13)])
    (h : PL_corner v0 v1 v2 v4 v6 S P) (hO : okE E mL_corner) (hW0 : wd E ad S E.2.1.2.2.1.heap []) {ls : Array Slot} (hl : lvh ad 8 ls [(0, aA v0), (1, aI v1), (2, aJ v2), (4, aJ v4), (6, aA v6)]) :
    W E.2.1.1 E.1.1 E.2.1.2.1 mL_corner.2.2.2.1 E.2.1.2.2.1 E.2.1.2.2.2.1 E.2.2.1 E.2.1.2.2.2.2.1 E.2.1.2.2.2.2.2.1 E.2.1.2.2.2.2.2.2 E.2.1.2.2.1.heap [] 0 0 E.2.2.2 (F0 E.2.1.2.2.2.1 0 ls []) := by
  obtain ⟨h1, h⟩ := h
  refine lv_aload hO.1 hO.2.1 dL_corner_0 (hl.2.2 6 (aA v6) rfl) ?_
  refine lv_iconst (v := 0) hO.1 hO.2.1 dL_corner_2 (by decide) ?_
  refine lv_aload_n hO.1 hO.2.1 dL_corner_3 rfl (hl.2.2 0 (aA v0) rfl) ?_
  refine lv_iload_n hO.1 hO.2.1 dL_corner_4 rfl (hl.2.2 1 (aI v1) rfl) ?_
  refine lv_lload_n hO.1 hO.2.1 dL_corner_5 rfl (hl.2.2 2 (aJ v2) rfl) ?_
  refine lv_lload hO.1 hO.2.1 dL_corner_6 (hl.2.2 4 (aJ v4) rfl) ?_
  -- what comes behind the call, if it answers
  have key : ∀ (x : Int32) (S1 : hs), ((x = 0 → (ix S1 9 v6 0 ∧ ∀ S2, S2 = sJ S1 v6 (Int32.toNatClampNeg 0) 0 → P 0 S2)) ∧ (¬ x = 0 → (ix S1 9 v6 0 ∧ ∀ S2, S2 = sJ S1 v6 (Int32.toNatClampNeg 0) 1 → P 0 S2))) → X E mL_corner 1 6 ad S1 11 [(0, aA v0), (1, aI v1), (2, aJ v2), (4, aJ v4), (6, aA v6)] [aI x, aI 0, aA v6] := by
    intro x S1 hh
    refine x_if_eq (tgt := 18) dL_corner_11 (by decide) (fun c => ?_) (fun c => ?_)
    · obtain ⟨i1, i2⟩ := hh.1 c
      refine x_lconst (v := 0) dL_corner_18 (by decide) ?_
      refine x_last dL_corner_19 i1 ?_
      refine x_goto (tgt := 27) dL_corner_20 (by decide) ?_
      refine x_iconst (v := 0) dL_corner_27 (by decide) ?_
      exact x_iretM hQ rfl dL_corner_28 ⟨_, rfl, i2 _ rfl⟩
    · obtain ⟨i1, i2⟩ := hh.2 c
      refine x_lconst (v := 1) dL_corner_14 (by decide) ?_
      refine x_goto (tgt := 19) dL_corner_15 (by decide) ?_
      refine x_last dL_corner_19 i1 ?_
      refine x_goto (tgt := 27) dL_corner_20 (by decide) ?_
      refine x_iconst (v := 0) dL_corner_27 (by decide) ?_
      exact x_iretM hQ rfl dL_corner_28 ⟨_, rfl, i2 _ rfl⟩
  intro T hT Y
  have hts := hO.2.2.2.2.1
  obtain ⟨cellB, hcB, hoB, hclB⟩ := va_recv (ci := 7) hO.2.2.2.2.2.1 hW0.1 rfl (wd_at hW0 h1.1 (hcell_o 6 h1.2 (by decide)))
  obtain ⟨mk, methM, hnamed, hmethM, hstM, habM⟩ := Cond.instanceMethod_spec (hts _ (tbG_in wc_i rfl))
  obtain ⟨methM', cM, hmethM', hcM, hbM, hlM, hrM, hlkM, hexM, hsigM⟩ := Cond.code_spec hnamed (hts _ (tbG_in wc_c rfl))
  cases hmethM.symm.trans hmethM'
  obtain ⟨c2, r2, m2, q1, q2, q3, q4, kP, hkP, hkPi⟩ := Cond.selects_spec (hts _ (tbG_in wc_s rfl))
  cases hclB.symm.trans q1
  cases (State.methodFound?_of_named hnamed ⟨by decide, by decide⟩).symm.trans q2
  cases hnamed.symm.trans q3
  have hselP : selectMethod E.2.1.2.1.platform E.2.1.2.2.1.vm cellB.cls mk = .method mk := by rw [Launch.admits_selectMethod Y.admits]; exact q4
  obtain ⟨vm₁, Y₁, hstep₁⟩ := Y.invokevirtual hO.1 hO.2.2.2.1 (hts _ (tbG_in wc_l rfl)) hnamed hmethM hstM hkP hkPi ⟨by decide, by decide⟩ (a := ad v0) (cell := cellB) (by rw [hT]; exact hcB)
    (fun z hz0 => by rw [hz0] at hoB; cases hoB) hselP hmethM habM hkP hkPi (g := F0 E.2.1.2.2.2.1 8 ls [.long v4, .long v2, .int v1, .ref (ad v0), .int 0, .ref (ad v6)]) rfl (argsL := [.int v1, .long v2, .long v4]) (rest := [.int 0, .ref (ad v6)]) (by
      have e1 : parseMethodDescriptor yX6_corner.desc = some methM.sig := hsigM
      have e2 : (parseMethodDescriptor yX6_corner.desc).map (fun d => d.parameters.length) = some 3 := by decide +kernel
      rw [e1] at e2
      exact (Option.some.inj e2).symm) rfl (by rw [hO.2.1]; exact dL_corner_8)
  have hwm := Y₁.warmed
  have hmk : (T.setVm vm₁).vm.method? mk = some methM := by rw [hwm.alike.method?]; exact hmethM
  have hnm : (T.setVm vm₁).methodNamed? yX6_corner = some mk := Y₁.named hnamed
  have hheap : T.heap = E.2.1.2.2.1.heap := hT
  have hstep₁ : ∀ target, (∀ acts, Steps E.2.1.1.tables E.2.1.2.1 E.2.1.2.2.2.2.1 (doInvoke E.2.1.2.1 ((T.setVm vm₁).setTop (F0 E.2.1.2.2.2.1 8 ls [.int 0, .ref (ad v6)])) acts mk #[.ref (ad v0), .int v1, .long v2, .long v4]).1 target) → Steps E.2.1.1.tables E.2.1.2.1 E.2.1.2.2.2.2.1 (T.setTop (F0 E.2.1.2.2.2.1 8 ls [.long v4, .long v2, .int v1, .ref (ad v0), .int 0, .ref (ad v6)])) target := hstep₁
  generalize hg2 : F0 E.2.1.2.2.2.1 8 ls [.int 0, .ref (ad v6)] = g2 at *
  have hg2s : g2.stack = [.int 0, .ref (ad v6)] := by rw [← hg2]
  obtain ⟨PT, hPT⟩ : ∃ PT : hs → Prop, PT = fun S1 => P 1 S1 := ⟨_, rfl⟩
  obtain ⟨PR, hPR⟩ : ∃ PR : Int32 → hs → Prop, PR = fun x S1 => ((x = 0 → (ix S1 9 v6 0 ∧ ∀ S2, S2 = sJ S1 v6 (Int32.toNatClampNeg 0) 0 → P 0 S2)) ∧ (¬ x = 0 → (ix S1 9 v6 0 ∧ ∀ S2, S2 = sJ S1 v6 (Int32.toNatClampNeg 0) 1 → P 0 S2))) := ⟨_, rfl⟩
  rw [← hPT, ← hPR] at h
  obtain ⟨E2, hE2⟩ : ∃ E2 : en, E2 = (E.1, (E.2.1.1, E.2.1.2.1, (T.setVm vm₁).calling g2 mk #[.ref (ad v0), .int v1, .long v2, .long v4], mk, .java g2 :: E.2.1.2.2.2.2.1, methM, cM), #[.ref (ad v0), .int v1, .long v2, .long v4], fun _ => True) := ⟨_, rfl⟩
  have main : ∃ t, (MQ (.java g2 :: E.2.1.2.2.2.2.1) (qN E.1 ad (pI PR)) #[.ref (ad v0), .int v1, .long v2, .long v4] ((T.setVm vm₁).calling g2 mk #[.ref (ad v0), .int v1, .long v2, .long v4]) 1 6 (fun q => E.1.2.2.2 ≤ q) t ∨ thQ E2 ad PT t) ∧ ∀ acts, Steps E.2.1.1.tables E.2.1.2.1 E.2.1.2.2.2.2.1 (doInvoke E.2.1.2.1 ((T.setVm vm₁).setTop g2) acts mk #[.ref (ad v0), .int v1, .long v2, .long v4]).1 t := by
    refine inl_run Y₁ (by rw [← hg2]) (by rw [← hg2]; exact hl.1.trans hO.2.2.1.symm) (ig := .invokevirtual 7) (len := 3) (by rw [← hg2, hO.2.1]; exact dL_corner_8) (R' := mX6_corner.2.2.2.1) hmk hcM hlkM (plain_in hnm (by decide)) (by decide) (by rw [hlM, ← hg2]; exact Nat.le_of_ble_eq_true rfl) (by decide) (by decide) ?_
    have hle := lv_entry ([aA v0, aI v1, aJ v2, aJ v4].map (vl ad)) (n := 6) (by rw [lg_sl_len]; exact Nat.le_of_ble_eq_true rfl)
    rw [hlM]
    have e9 : entryFrame mk #[.ref (ad v0), .int v1, .long v2, .long v4] 6 = F0 mk 0 _ [] := lg_entry_eq mk ([aA v0, aI v1, aJ v2, aJ v4].map (vl ad)) 6
    rw [e9]
    have hOc : okE (E.1, (E.2.1.1, E.2.1.2.1, (T.setVm vm₁).calling g2 mk #[.ref (ad v0), .int v1, .long v2, .long v4], mk, .java g2 :: E.2.1.2.2.2.2.1, methM, cM), #[.ref (ad v0), .int v1, .long v2, .long v4], fun t => MQ (.java g2 :: E.2.1.2.2.2.2.1) (qN E.1 ad (pI PR)) #[.ref (ad v0), .int v1, .long v2, .long v4] ((T.setVm vm₁).calling g2 mk #[.ref (ad v0), .int v1, .long v2, .long v4]) 1 6 (fun q => E.1.2.2.2 ≤ q) t ∨ thQ E2 ad PT t) mX6_corner :=
      okE_in hO hwm (by show E.1.2.2.2 ≤ T.heap.size; rw [hheap]; exact hO.2.2.2.2.2.2.1) hnm hmk hbM hlM hrM hlkM
    refine wX6_corner (E := (E.1, (E.2.1.1, E.2.1.2.1, (T.setVm vm₁).calling g2 mk #[.ref (ad v0), .int v1, .long v2, .long v4], mk, .java g2 :: E.2.1.2.2.2.2.1, methM, cM), #[.ref (ad v0), .int v1, .long v2, .long v4], fun t => MQ (.java g2 :: E.2.1.2.2.2.2.1) (qN E.1 ad (pI PR)) #[.ref (ad v0), .int v1, .long v2, .long v4] ((T.setVm vm₁).calling g2 mk #[.ref (ad v0), .int v1, .long v2, .long v4]) 1 6 (fun q => E.1.2.2.2 ≤ q) t ∨ thQ E2 ad PT t)) (PostT := PT) (Post := PR) hfl (by rw [hE2]; rfl) (hT0.move (U := (T.setVm vm₁).calling g2 mk #[.ref (ad v0), .int v1, .long v2, .long v4]) hwm (fun q _ => by show T.heap[q]? = _; rw [hheap])) (fun x hx => ?_) h hOc ⟨by show va_P _ _ _ T.heap; rw [hheap]; exact hW0.1, hW0.2.1, va_S.rf⟩ ⟨hle.1, hle.2.1, fun i v hv => hle.2.2 (i, vl ad v) (ents_lk ad [aA v0, aI v1, aJ v2, aJ v4] 0 i v hv)⟩
    have h0 : cM.exceptionTable.toList = [] := by
      have := hexM
      simp only [Array.isEmpty] at this
      exact List.eq_nil_of_length_eq_zero (by simpa using this)
    have hx : x ∈ cM.exceptionTable.toList := hx
    rw [h0] at hx
    cases hx
  obtain ⟨t, hq, hsteps⟩ := main
  have hdg : decode E.2.1.2.2.2.2.2.2.code g2.pc = .ok (.invokevirtual 7, 3) := by rw [← hg2, hO.2.1]; exact dL_corner_8
  rcases hq with hq | hq
  · obtain ⟨o, hrun, hend, ⟨⟨r, S', ho, hp, hP', hK', hD'⟩, hz, hk⟩, Lc, ⟨-, hWt, hsame⟩, hfree⟩ := hq
    obtain ⟨x, rfl, hx⟩ := hp
    subst ho
    rw [hPR] at hx
    obtain ⟨T', Y', hW', hB', ht⟩ := Y₁.outOf (g := g2) (by rw [← hg2]) hdg hend hWt hsame
    have hh : t.heap = T'.heap := by rw [ht]; rfl
    have hS' : va_S (fun q => E.1.2.2.2 ≤ q) E.2.1.2.2.1.heap T'.heap ([] ++ Lc) := by
      refine ⟨?_, fun q h1 h2 => ?_, fun q hq => ?_⟩
      · rw [← hh]
        have : T.heap.size ≤ t.heap.size := hz
        rw [hheap] at this
        exact this
      · rw [← hh]
        have : t.heap[q]? = T.heap[q]? := hk q (by show q < T.heap.size; rw [hheap]; exact h1) h2
        rw [this, hheap]
      · rw [List.nil_append] at hq
        exact hfree q hq
    have kx := key x S' hx hO T'.heap ([] ++ Lc) ls ⟨by rw [← hh]; exact hP', hD', hS'⟩ hl
    obtain ⟨t2, st2, hq2⟩ := kx T' rfl Y'
    refine ⟨t2, hstep₁ _ (fun acts => (hsteps acts).trans ?_), hq2⟩
    rw [ht]
    rw [← hg2]
    exact st2
  · rw [hE2] at hq
    obtain ⟨a, ce, S', hrun, hend, hWt, ⟨Lc, hsame, hfree⟩, hce, hcevm, hcecls, hceself, hp, hP', hD', hz, hk⟩ := hq
    rw [hPT] at hp
    obtain ⟨T', Y', hW', hB', ht⟩ := Y₁.outOfThrown (g := g2) (by rw [← hg2]) hend hWt hsame
    have hh : t.heap = T'.heap := by rw [ht]; rfl
    have hS' : va_S (fun q => E.1.2.2.2 ≤ q) E.2.1.2.2.1.heap T'.heap ([] ++ Lc) := by
      refine ⟨?_, fun q h1 h2 => ?_, fun q hq => ?_⟩
      · rw [← hh]
        have : T.heap.size ≤ t.heap.size := hz
        rw [hheap] at this
        exact this
      · rw [← hh]
        have : t.heap[q]? = T.heap[q]? := hk q (by show q < T.heap.size; rw [hheap]; exact h1) h2
        rw [this, hheap]
      · rw [List.nil_append] at hq
        exact hfree q hq
    obtain ⟨x0, hx0, hx1⟩ : ∃ x0, E.2.1.2.2.2.2.2.2.exceptionTable.toList = [x0] ∧ (x0.startPc, x0.endPc, x0.handlerPc, x0.catchType) = (0, 20, 23, 13) := by
      cases hl0 : E.2.1.2.2.2.2.2.2.exceptionTable.toList with
      | nil => rw [hl0] at htab; simp at htab
      | cons y ys =>
        rw [hl0] at htab
        simp only [List.map_cons, List.cons.injEq, List.map_eq_nil_iff] at htab
        exact ⟨y, by rw [htab.2], htab.1⟩
    simp only [Prod.mk.injEq] at hx1
    obtain ⟨e1, e2, e3, e4⟩ := hx1
    have hC : E.2.1.2.2.1.vm.findClass eX = some ce.cls := by
      have h9 : (T.setVm vm₁).vm.findClass eX = some ce.cls := hcecls
      rw [hwm.alike.findClass] at h9
      exact h9
    have hfit : E.2.1.2.2.1.vm.assignable ce.cls ce.cls = true := by
      have h9 : (T.setVm vm₁).vm.assignable ce.cls ce.cls = true := hceself
      rw [hwm.alike.assignable] at h9
      exact h9
    obtain ⟨vm₂, Y₂, hstep₂⟩ := x_catch Y' (g := g2) (by rw [← hg2]) hx0 (by rw [← hg2]; simp [covers, e1, e2]) (by rw [e4]; decide) (own := RL) (C := eX) hO.2.2.2.1 (by rw [e4]; exact hts _ (tbG_in wc_e rfl)) hC (by rw [← hh]; exact hce) hcevm hfit
    have hWh : W E.2.1.1 E.1.1 E.2.1.2.1 mL_corner.2.2.2.1 E.2.1.2.2.1 E.2.1.2.2.2.1 E.2.2.1 E.2.1.2.2.2.2.1 E.2.1.2.2.2.2.2.1 E.2.1.2.2.2.2.2.2 T'.heap ([] ++ Lc) 1 6 E.2.2.2 (F0 E.2.1.2.2.2.1 23 ls [.ref a]) := by
      refine lv_astore hO.1 hO.2.1 dL_corner_23 (lvc_has hl) (by decide) rfl (fun ls' h' => ?_)
      refine lv_iconst (v := 1) hO.1 hO.2.1 dL_corner_25 (by decide) ?_
      rw [hQ]
      exact W.iret hO.1 hO.2.1 hO.2.2.2.2.2.2.2.2.1 (qN_of (r := some (aI 1)) (M := mL_corner) (S := S') hO ⟨by rw [← hh]; exact hP', hD', hS'⟩ ⟨1, rfl, hp⟩) hS'.2.2 dL_corner_26 hO.2.2.2.2.2.2.2.2.2
    obtain ⟨t2, st2, hq2⟩ := hWh (T'.setVm vm₂) rfl Y₂
    refine ⟨t2, hstep₁ _ (fun acts => (hsteps acts).trans ?_), hq2⟩
    rw [ht]
    refine hstep₂ _ ?_
    rw [e3, ← hg2]
    exact st2
