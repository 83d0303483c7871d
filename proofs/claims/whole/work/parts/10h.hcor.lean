/-! the law's call of its corner -/
theorem wc_l29 : Cond.methodLink RL 29 yL_corner ∈ lw_tbl := List.mem_append_right _ (List.mem_of_getElem? (i := 657) (by decide +kernel))
theorem wc_il : Cond.initialized RL ∈ lw_tbl := List.mem_append_right _ (List.mem_of_getElem? (i := 0) (by decide +kernel))
set_option maxHeartbeats 4000000 in
theorem x_lcor {E : en} {ad : Nat → Nat} {L : Nat} {xs : Nat → Int32} (hL : lawE E ad L xs) (hfl : E.1.1.flags = flags0) (hT0 : thX E.1.2.2.2 E.2.1.2.2.1) : ∀ (v1 : Nat) (p0 : Int32) (p1 p2 : Int64) (v3 : Nat) (v2 : Nat) (v4 : Int32) {n1 n2 : Nat} {S : hs} {P : Int32 → hs → Prop}, n1 + 1 ≤ 601024 → n2 + 6 ≤ 7293000 → PL_corner v1 p0 p1 p2 v3 S P → (∀ x S', P x S' → X E mL_law (n1 + 1) (n2 + 6) ad S' (184 + 3) [(0, aA SC), (1, aA v1), (2, aA v2), (3, aA v3), (4, aI v4)] [aI x]) → X E mL_law n1 n2 ad S 184 [(0, aA SC), (1, aA v1), (2, aA v2), (3, aA v3), (4, aI v4)] [aA v3, aJ p2, aJ p1, aI p0, aA v1] := by
  intro v1 p0 p1 p2 v3 v2 v4 n1 n2 S P hc1 hc2 h kk hO H locs ls hW hl T hT Y
  have hts := hO.2.2.2.2.1
  obtain ⟨mk, methM, cM, hnamed, hmethM, hcM, hbM, hlM, htab, hrM, hlkM, hsigM⟩ := Cond.codeWith_spec (hts _ (tbG_in wc_w wc_n))
  have hstat : methM.isStatic = true := Cond.static_spec hnamed hmethM (hts _ (tbG_in wc_t rfl))
  obtain ⟨kY, hkY, hkn⟩ := className_of_methodNamed hnamed
  have hinitY : kY.init = .initialized := Cond.initialized_spec (findClass_of_methodNamed hnamed) hkY (hts _ (tbG_in wc_il rfl))
  obtain ⟨vm₁, Y₁, hstep₁⟩ := Y.invokestatic hO.1 hO.2.2.2.1 (hts _ (tbG_in wc_l29 rfl)) hnamed hmethM hstat hkY hinitY ⟨by decide, by decide⟩ (g := F0 E.2.1.2.2.2.1 184 ls [.ref (ad v3), .long p2, .long p1, .int p0, .ref (ad v1)]) rfl (argsL := [.ref (ad v1), .int p0, .long p1, .long p2, .ref (ad v3)]) (rest := []) (by
      have e1 : parseMethodDescriptor yL_corner.desc = some methM.sig := hsigM
      have e2 : (parseMethodDescriptor yL_corner.desc).map (fun d => d.parameters.length) = some 5 := by decide +kernel
      rw [e1] at e2
      exact (Option.some.inj e2).symm) rfl (by rw [hO.2.1]; exact dL_law_184)
  have hstep₁ : ∀ target, (∀ acts, Steps E.2.1.1.tables E.2.1.2.1 E.2.1.2.2.2.2.1 (doInvoke E.2.1.2.1 ((T.setVm vm₁).setTop (F0 E.2.1.2.2.2.1 184 ls [])) acts mk #[.ref (ad v1), .int p0, .long p1, .long p2, .ref (ad v3)]).1 target) → Steps E.2.1.1.tables E.2.1.2.1 E.2.1.2.2.2.2.1 (T.setTop (F0 E.2.1.2.2.2.1 184 ls [.ref (ad v3), .long p2, .long p1, .int p0, .ref (ad v1)])) target := hstep₁
  have hwm := Y₁.warmed
  have hmk : (T.setVm vm₁).vm.method? mk = some methM := by rw [hwm.alike.method?]; exact hmethM
  have hnm : (T.setVm vm₁).methodNamed? yL_corner = some mk := Y₁.named hnamed
  have hdg : decode E.2.1.2.2.2.2.2.2.code (F0 E.2.1.2.2.2.1 184 ls []).pc = .ok (.invokestatic 29, 3) := by rw [hO.2.1]; exact dL_law_184
  generalize hg2 : F0 E.2.1.2.2.2.1 184 ls [] = g2 at *
  have hOc : okE (E.1, (E.2.1.1, E.2.1.2.1, (T.setVm vm₁).calling g2 mk #[.ref (ad v1), .int p0, .long p1, .long p2, .ref (ad v3)], mk, .java g2 :: E.2.1.2.2.2.2.1, methM, cM), #[.ref (ad v1), .int p0, .long p1, .long p2, .ref (ad v3)], MQ (.java g2 :: E.2.1.2.2.2.2.1) (qN E.1 ad (pI P)) #[.ref (ad v1), .int p0, .long p1, .long p2, .ref (ad v3)] ((T.setVm vm₁).calling g2 mk #[.ref (ad v1), .int p0, .long p1, .long p2, .ref (ad v3)]) 1 6 (fun q => E.1.2.2.2 ≤ q)) mL_corner :=
    okE_in hO hwm (by show E.1.2.2.2 ≤ T.heap.size; rw [hT]; exact Nat.le_trans hO.2.2.2.2.2.2.1 hW.2.2.1) hnm hmk hbM hlM hrM hlkM
  have main : ∃ t, MQ (.java g2 :: E.2.1.2.2.2.2.1) (qN E.1 ad (pI P)) #[.ref (ad v1), .int p0, .long p1, .long p2, .ref (ad v3)] ((T.setVm vm₁).calling g2 mk #[.ref (ad v1), .int p0, .long p1, .long p2, .ref (ad v3)]) 1 6 (fun q => E.1.2.2.2 ≤ q) t ∧ ∀ acts, Steps E.2.1.1.tables E.2.1.2.1 E.2.1.2.2.2.2.1 (doInvoke E.2.1.2.1 ((T.setVm vm₁).setTop g2) acts mk #[.ref (ad v1), .int p0, .long p1, .long p2, .ref (ad v3)]).1 t := by
    refine inl_run Y₁ (by rw [← hg2]) (by rw [← hg2]; exact hl.1.trans hO.2.2.1.symm) hdg (R' := mL_corner.2.2.2.1) hmk hcM hlkM (plain_in hnm (by decide)) (by decide) (by rw [hlM, ← hg2]; exact Nat.le_of_ble_eq_true rfl) (show n1 + 1 ≤ 601024 from hc1) (show n2 + 6 ≤ 7293000 from hc2) ?_
    have hle := lv_entry ([aA v1, aI p0, aJ p1, aJ p2, aA v3].map (vl ad)) (n := 8) (by rw [lg_sl_len]; exact Nat.le_of_ble_eq_true rfl)
    rw [hlM]
    have e9 : entryFrame mk #[.ref (ad v1), .int p0, .long p1, .long p2, .ref (ad v3)] 8 = F0 mk 0 _ [] := lg_entry_eq mk ([aA v1, aI p0, aJ p1, aJ p2, aA v3].map (vl ad)) 8
    rw [e9]
    exact wL_corner (E := (E.1, (E.2.1.1, E.2.1.2.1, (T.setVm vm₁).calling g2 mk #[.ref (ad v1), .int p0, .long p1, .long p2, .ref (ad v3)], mk, .java g2 :: E.2.1.2.2.2.2.1, methM, cM), #[.ref (ad v1), .int p0, .long p1, .long p2, .ref (ad v3)], MQ (.java g2 :: E.2.1.2.2.2.2.1) (qN E.1 ad (pI P)) #[.ref (ad v1), .int p0, .long p1, .long p2, .ref (ad v3)] ((T.setVm vm₁).calling g2 mk #[.ref (ad v1), .int p0, .long p1, .long p2, .ref (ad v3)]) 1 6 (fun q => E.1.2.2.2 ≤ q))) hfl rfl (hT0.move (U := (T.setVm vm₁).calling g2 mk #[.ref (ad v1), .int p0, .long p1, .long p2, .ref (ad v3)]) hwm (fun q hq => by
        show T.heap[q]? = _
        rw [hT]
        exact hW.2.2.2.1 q (by rw [← hL.2.2.2.2]; exact hq) (Nat.not_le.mpr hq))) htab h hOc ⟨by show va_P _ _ _ T.heap; rw [hT]; exact hW.1, hW.2.1, va_S.rf⟩ ⟨hle.1, hle.2.1, fun i v hv => hle.2.2 (i, vl ad v) (ents_lk ad [aA v1, aI p0, aJ p1, aJ p2, aA v3] 0 i v hv)⟩
  obtain ⟨t, hq, hsteps⟩ := main
  obtain ⟨o, hrun, hend, ⟨⟨r, S', ho, hp, hP', hK', hD'⟩, hz, hk⟩, Lc, ⟨-, hWt, hsame⟩, hfree⟩ := hq
  obtain ⟨x, rfl, hx⟩ := hp
  subst ho
  obtain ⟨T', Y', hW', hB', ht⟩ := Y₁.outOf (g := g2) (by rw [← hg2]) hdg hend hWt hsame
  have hh : t.heap = T'.heap := by rw [ht]; rfl
  have hS := hW.2.2
  have hS' : va_S (fun q => E.1.2.2.2 ≤ q) E.2.1.2.2.1.heap T'.heap (locs ++ Lc) := by
    refine ⟨?_, fun q h1 h2 => ?_, fun q hq => ?_⟩
    · rw [← hh]
      have : T.heap.size ≤ t.heap.size := hz
      rw [hT] at this
      exact Nat.le_trans hS.1 this
    · rw [← hh]
      have : t.heap[q]? = T.heap[q]? := hk q (by show q < T.heap.size; rw [hT]; exact Nat.lt_of_lt_of_le h1 hS.1) h2
      rw [this, hT]
      exact hS.2.1 q h1 h2
    · rcases List.mem_append.mp hq with h | h
      · exact hS.2.2 q h
      · exact hfree q h
  obtain ⟨t2, st2, hq2⟩ := kk x S' hx hO T'.heap (locs ++ Lc) ls ⟨by rw [← hh]; exact hP', hD', hS'⟩ hl T' rfl Y'
  refine ⟨t2, hstep₁ _ (fun acts => (hsteps acts).trans ?_), hq2⟩
  rw [ht, ← hg2]
  exact st2
