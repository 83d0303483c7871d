/-! the law from its entry, in the picture -/
theorem ws1 : Cond.classLink RL 8 RX6 ∈ lw_tbl := List.mem_append_right _ (List.mem_of_getElem? (i := 15) (by decide +kernel))
theorem ws2 : Cond.instantiable RX6 7 ∈ lw_tbl := List.mem_append_right _ (List.mem_of_getElem? (i := 16) (by decide +kernel))
theorem ws3 : Cond.initialized RX6 ∈ lw_tbl := List.mem_append_right _ (List.mem_of_getElem? (i := 1) (by decide +kernel))
theorem ws4 : Cond.classLink RL 24 RX7 ∈ lw_tbl := List.mem_append_right _ (List.mem_of_getElem? (i := 735) (by decide +kernel))
theorem ws5 : Cond.instantiable RX7 28 ∈ lw_tbl := List.mem_append_right _ (List.mem_of_getElem? (i := 736) (by decide +kernel))
theorem ws6 : Cond.initialized RX7 ∈ lw_tbl := by decide +kernel
def S00 : hs := (0, fun _ => 0, fun _ => 0, fun _ _ => 0, fun _ _ => 0, fun _ _ => none)
theorem lawE.ag {E : en} {ad ad' : Nat → Nat} {L : Nat} {xs : Nat → Int32} (h : lawE E ad L xs) (e : ad' SC = ad SC) : lawE E ad' L xs := by
  obtain ⟨h1, h2, h3, h4, h5⟩ := h
  exact ⟨by rw [e]; exact h1, by rw [e]; exact h2, by rw [e]; exact h3, by rw [e]; exact h4, h5⟩
def PL_law (L : Nat) (xs : Nat → Int32) : Prop := PX6_init 0 (if 0 < L then xs 0 else 0) 1 (nw S00 6 0) (fun S2 => (wfS S2 ∧ S2.1 ≤ 2000 ∧ 0 < S2.1) ∧ PX7_init S2.1 (if 0 < L then xs 0 else 0) (S2.1 + 1) (nw S2 7 0) (fun S4 => (wfS S4 ∧ S4.1 ≤ 3000 ∧ S2.1 < S4.1) ∧ PL_law_33 L xs 600 0 S2.1 S4.1 1 (nw S4 9 1)))
set_option maxRecDepth 100000 in
set_option maxHeartbeats 4000000 in
theorem xL_law {E : en} {ad : Nat → Nat} {L : Nat} {xs : Nat → Int32} (hLb : L < 2 ^ 31) (hL : lawE E ad L xs) (hfl : E.1.1.flags = flags0) (hT0 : thX E.1.2.2.2 E.2.1.2.2.1) (hX : xtra E.2.1.2.2.1) (h : PL_law L xs) : X E mL_law 0 0 ad S00 0 [(0, aA SC)] [] := by
  unfold PL_law at h
  have hz : (S00.1 : Nat) = 0 := rfl
  refine x_newOL (k := 6) tyX6 rfl (by decide) tyX6_ok inG6 (by decide +kernel) ws1 ws2 ws3 dL_law_0 ⟨by decide, by decide⟩ (by decide) (fun a j r hr0 => by cases hr0) ⟨Or.inr rfl, trivial⟩ trivial (fun ad1 hag1 hsc1 => ?_)
  have hL := hL.ag hsc1
  clear hag1 hsc1
  generalize ad1 = ad at hL ⊢
  refine x_dupR dL_law_3 ?_
  refine x_aload_n dL_law_4 rfl ?_
  refine x_iconst (v := 0) dL_law_5 (by decide) ?_
  refine x_cell hLb hL.2.2 dL_law_6 (Nat.le_of_ble_eq_true rfl) ⟨by decide, by decide⟩ ?_
  refine x_callIL (As := [aI (if 0 < L then xs 0 else 0)]) (st := [aA S00.1]) kL_21 rfl ⟨by decide, by decide⟩ dL_law_9 rfl (Nat.le_of_ble_eq_true rfl) ⟨by decide, by decide⟩ hX ⟨Or.inr rfl, trivial⟩ ⟨Or.inl (by decide), trivial⟩ (ctX6_init h) (fun S' hp => ⟨hp.1.1, by have := hp.1.2.1; show S'.1 ≤ 1000000; omega⟩) (fun S2 ad2 hag2 hsc2 h => ?_)
  have hL := hL.ag hsc2
  clear hag2 hsc2
  generalize ad2 = ad at hL ⊢
  obtain ⟨⟨wf2, hb2, hp2⟩, h⟩ := h
  refine x_astore_n dL_law_12 (by decide) rfl ?_
  refine x_newOL (k := 7) tyX7 rfl (by decide) tyX7_ok inG7 (by decide +kernel) ws4 ws5 ws6 dL_law_13 ⟨by decide, by decide⟩ (by show S2.1 < 1000000; omega) wf2 ⟨Or.inl hp2, Or.inr rfl, trivial⟩ trivial (fun ad3 hag3 hsc3 => ?_)
  have hL := hL.ag hsc3
  clear hag3 hsc3
  generalize ad3 = ad at hL ⊢
  refine x_dupR dL_law_16 ?_
  refine x_aload_n dL_law_17 rfl ?_
  refine x_iconst (v := 0) dL_law_18 (by decide) ?_
  refine x_cell hLb hL.2.2 dL_law_19 (Nat.le_of_ble_eq_true rfl) ⟨by decide, by decide⟩ ?_
  refine x_callIL (As := [aI (if 0 < L then xs 0 else 0)]) (st := [aA S2.1]) kL_26 rfl ⟨by decide, by decide⟩ dL_law_22 rfl (Nat.le_of_ble_eq_true rfl) ⟨by decide, by decide⟩ hX ⟨Or.inl (by show 0 < S2.1 + 1; omega), Or.inr rfl, trivial⟩ ⟨Or.inl (Nat.lt_succ_self _), trivial⟩ (ctX7_init h) (fun S' hp => ⟨hp.1.1, by have := hp.1.2.1; show S'.1 ≤ 1000000; omega⟩) (fun S4 ad4 hag4 hsc4 h => ?_)
  have hL := hL.ag hsc4
  clear hag4 hsc4
  generalize ad4 = ad at hL ⊢
  obtain ⟨⟨wf4, hb4, hp4⟩, h⟩ := h
  refine x_astore_n dL_law_25 (by decide) rfl ?_
  refine x_iconst (v := 1) dL_law_26 (by decide) ?_
  refine x_newJL (N := 1) (by decide) (by decide) (by decide) dL_law_27 ⟨by decide, by decide⟩ (by show S4.1 < 1000000; omega) wf4 ⟨Or.inl hp4, Or.inl (by show 0 < S4.1; omega), Or.inr rfl, trivial⟩ trivial (fun ad5 hag5 hsc5 => ?_)
  have hL := hL.ag hsc5
  clear hag5 hsc5
  generalize ad5 = ad at hL ⊢
  refine x_astore_n dL_law_29 (by decide) rfl ?_
  refine x_iconst (v := 1) dL_law_30 (by decide) ?_
  refine x_istore dL_law_31 (by decide) rfl ?_
  refine x_lv (lv' := [(0, aA SC), (1, aA 0), (2, aA S2.1), (3, aA S4.1), (4, aI 1)]) ⟨rfl, rfl, rfl, rfl, rfl, trivial⟩ ?_
  exact xL_law_33 hL (x_lcor hL hfl hT0) 600 0 S2.1 S4.1 1 (nw S4 9 1) _ _ (by decide) (by decide) h
