/-! the law's beginning: its script, two constructors, a row of one long -/
abbrev mL_cell : mt := (yL_cell, cL_cell, 2, { frames := 0, cells := 0, slots := 0, locals := 0 }, (some .int))
theorem wl_cl : Cond.methodLink RL 15 yL_cell ∈ lw_tbl := List.mem_append_right _ (List.mem_of_getElem? (i := 654) (by decide +kernel))
theorem wl_cs : Cond.static yL_cell ∈ lw_tbl := List.mem_append_right _ (List.mem_of_getElem? (i := 655) (by decide +kernel))
theorem wl_cc : Cond.code yL_cell cL_cell 2 (some .int) ∈ lw_tbl := List.mem_append_right _ (List.mem_of_getElem? (i := 656) (by decide +kernel))
theorem kL_15 : cokS RL mL_cell 15 2 := ⟨⟨wl_cl, wc_il, wl_cc, by decide +kernel, by decide +kernel, by decide +kernel⟩, wl_cs⟩
def pcC (b L : Nat) (xs : Nat → Int32) : Array Value → State → Prop := fun v U => v = #[.ref b, .int 0] ∧ va_X b L xs U U.heap
theorem metCell (l : Launch) {b L : Nat} {xs : Nat → Int32} (hLb : L < 2 ^ 31) : Met l yL_cell (Cond.code yL_cell cL_cell 2 (some .int) :: tbG) { frames := 0, cells := 0, slots := 0, locals := 0 } (pcC b L xs) (QcRead (if 0 < L then xs 0 else 0)) 0 0 (fun _ => False) := by
  refine Met.ofW (cc := cL_cell) (maxL := 2) (ret := some .int) (by decide) rfl ?_
  intro p e s m args below meth c s₁ B hml hv
  obtain ⟨rfl, hX⟩ := hv
  have hx := B.exec
  have hb := B.bytes
  have hret := B.returns
  have hlocks := B.notSynchronized
  have hl := lv_entry ([.ref b, .int 0]) (n := 2) (Nat.le_of_ble_eq_true rfl)
  have e9 : entryFrame m #[.ref b, .int 0] 2 = F0 m 0 _ [] := lg_entry_eq m [.ref b, .int 0] 2
  rw [e9]
  generalize (lg_sl ([.ref b, .int 0]) ++ List.replicate (2 - (lg_sl ([.ref b, .int 0])).length) Slot.unset).toArray = ls at hl ⊢
  have hl : lv_has ls 2 [(0, .ref b), (1, .int 0)] := hl
  have hbl : b < s.heap.size := by
    obtain ⟨scr, h1, -⟩ := hX
    exact (Array.getElem?_eq_some_iff.mp h1).1
  have fin : ∀ (z : Int32), z = (if 0 < L then xs 0 else 0) → W p l e (headSpec (Cond.code yL_cell cL_cell 2 (some .int) :: tbG) { frames := 0, cells := 0, slots := 0, locals := 0 }).room s m #[.ref b, .int 0] below meth c s.heap [] 0 0 (MQ below (QcRead (if 0 < L then xs 0 else 0)) #[.ref b, .int 0] s 0 0 (fun _ => False)) (F0 m 13 ls [.int z]) := by
    intro z hz1
    exact W.iret hx hb hret (fun t ht hW => ⟨by rw [hz1], ht⟩) (fun q hq => by cases hq) dL_cell_13 hlocks
  have hF : ¬ (fun _ : Nat => False) b := fun q => q
  have hS : va_S (fun _ : Nat => False) s.heap s.heap [] := va_S.rf
  refine lv_iload_n hx hb dL_cell_0 rfl (lv_at hl 1 rfl) ?_
  refine lv_aload_n hx hb dL_cell_1 rfl (lv_at hl 0 rfl) ?_
  refine va_slen hx hb hX hbl hF hS dL_cell_2 ?_
  refine lv_icmp_ge (tgt := 12) hx hb dL_cell_3 (by decide) (fun c1 => ?_) (fun c1 => ?_)
  · refine lv_iconst (v := 0) hx hb dL_cell_12 (by decide) ?_
    refine fin 0 ?_
    by_cases h0 : 0 < L
    · exact absurd c1 (nI_nle h0 hLb)
    · rw [if_neg h0]
  · have h0 : 0 < L := by
      rcases Nat.eq_zero_or_pos L with q | q
      · subst q; exact absurd (by decide) c1
      · exact q
    refine lv_aload_n hx hb dL_cell_6 rfl (lv_at hl 0 rfl) ?_
    refine lv_iload_n hx hb dL_cell_7 rfl (lv_at hl 1 rfl) ?_
    refine va_sld hx hb hX hbl hF hS (by have := vp_in_nI h0 hLb; rw [nI_0] at this; exact this) dL_cell_8 ?_
    refine lv_goto (tgt := 13) hx hb dL_cell_9 (by decide) ?_
    refine fin _ ?_
    rw [if_pos h0]
    rfl
section
variable {E : en} {M : mt} {n1 n2 : Nat} {ad : Nat → Nat} {S : hs} {pc : Nat} {lv : List (Nat × av)} {st : List av}
theorem x_cell {L : Nat} {xs : Nat → Int32} (hLb : L < 2 ^ 31) (hs : scr E ad L xs) (hd : decode cL_law pc = .ok (.invokestatic 15, 3)) (hs0 : slen st ≤ 8) (hf : n1 ≤ mL_law.2.2.2.1.cells ∧ n2 ≤ mL_law.2.2.2.1.slots) (k : X E mL_law n1 n2 ad S (pc + 3) lv (aI (if 0 < L then xs 0 else 0) :: st)) : X E mL_law n1 n2 ad S pc lv (aI 0 :: aA SC :: st) := by
  intro hO H locs ls hW hl
  have hsc := hs.2.1
  have hHb : H[ad SC]? = E.2.1.2.2.1.heap[ad SC]? := hW.2.2.2.1 _ hs.2.1 (by rw [hs.2.2]; exact Nat.not_le.mpr hs.2.1)
  refine W.callR (W.runS (As := [.ref (ad SC), .int 0]) (rest := st.map (vl ad)) ⟨hO.1, hO.2.1, hO.2.2.1, hO.2.2.2.1, hO.2.2.2.2.1⟩ (metCell (b := ad SC) (L := L) (xs := xs) E.1.1 hLb) ⟨callB_x (Mc := mL_cell) hO kL_15.1 ⟨rfl, rfl, by decide, by decide⟩, hO.2.2.2.2.1 _ (tbG_in wl_cs rfl)⟩ ⟨fun a U g mk q => q, fun U hU hw => ⟨rfl, ?_⟩⟩ rfl rfl hl.1 rfl (lv_room (by rw [slen_sum]; exact hs0)) hd hf) (k hO H locs ls hW hl)
  obtain ⟨scr0, h1, h2, h3, h4, h5⟩ := hs.1
  exact ⟨scr0, by rw [hU, hHb]; exact h1, State.isArrayOf_alike hw.alike h2, h3, h4, h5⟩
end
/-! the script's local beside the picture's -/
def okvL (n : Nat) (v : av) : Prop := match v with
  | .inr (.inr (some i)) => i < n ∨ i = SC
  | _ => True
def okvsL (n : Nat) : List av → Prop
  | [] => True
  | v :: t => okvL n v ∧ okvsL n t
def oklsL (n : Nat) : List (Nat × av) → Prop
  | [] => True
  | q :: t => okvL n q.2 ∧ oklsL n t
theorem vl_agL {ad ad' : Nat → Nat} {n : Nat} {v : av} (h : ∀ i, i < n → ad' i = ad i) (hc : ad' SC = ad SC) (hv : okvL n v) : vl ad' v = vl ad v := by
  match v, hv with
  | .inl _, _ => rfl
  | .inr (.inl _), _ => rfl
  | .inr (.inr none), _ => rfl
  | .inr (.inr (some i)), hv =>
    rcases hv with hv | rfl
    · exact congrArg Value.ref (h i hv)
    · exact congrArg Value.ref hc
theorem vls_agL {ad ad' : Nat → Nat} {n : Nat} (h : ∀ i, i < n → ad' i = ad i) (hc : ad' SC = ad SC) : ∀ {st : List av}, okvsL n st → st.map (vl ad') = st.map (vl ad)
  | [], _ => rfl
  | v :: t, hv => by rw [List.map_cons, List.map_cons, vl_agL h hc hv.1, vls_agL h hc hv.2]
theorem okls_lkL {n : Nat} : ∀ {lv : List (Nat × av)} {i : Nat} {v : av}, oklsL n lv → lkp lv i = some v → okvL n v
  | [], _, _, _, h => by simp [lkp] at h
  | q :: t, i, v, ho, h => by
    by_cases hi : i = q.1
    · subst hi
      rw [show q = (q.1, q.2) from rfl, lkp_cons_eq] at h
      cases h
      exact ho.1
    · rw [show q = (q.1, q.2) from rfl, lkp_cons_ne _ _ hi] at h
      exact okls_lkL ho.2 h
theorem lvh_agL {ad ad' : Nat → Nat} {n nL : Nat} {ls : Array Slot} {lv : List (Nat × av)} (h : ∀ i, i < n → ad' i = ad i) (hc : ad' SC = ad SC) (ho : oklsL n lv) (hl : lvh ad nL ls lv) : lvh ad' nL ls lv :=
  ⟨hl.1, hl.2.1, fun i v hv => by rw [vl_agL h hc (okls_lkL ho hv)]; exact hl.2.2 i v hv⟩
theorem wld_ad {cy : Nat → ClassId} {ad ad' : Nat → Nat} {S : hs} (wf : wfS S) (h : ∀ i, i < S.1 → ad' i = ad i) : wld cy ad' S = wld cy ad S := by
  unfold wld
  apply List.map_congr_left
  intro i hi0
  have hlt : i < S.1 := List.mem_range.mp hi0
  rw [h i hlt, hcell_ag rfl rfl rfl rfl rfl (fun j => map_ag h (fun r hr0 => wf i j r hr0))]
section
variable {E : en} {M : mt} {n1 n2 : Nat} {ad : Nat → Nat} {S : hs} {pc : Nat} {lv : List (Nat × av)} {st : List av} {Post : hs → Prop}
/-- another table of addresses, the same on what is there -/
theorem x_adL {ad' : Nat → Nat} (wf : wfS S) (hag : ∀ i, i < S.1 → ad' i = ad i) (hc : ad' SC = ad SC) (wl : oklsL S.1 lv) (wv : okvsL S.1 st) (k : X E M n1 n2 ad' S pc lv st) : X E M n1 n2 ad S pc lv st := by
  intro hO H locs ls hW hl
  have h := k hO H locs ls ⟨by rw [wld_ad wf hag]; exact hW.1, by rw [wld_ad wf hag]; exact hW.2.1, hW.2.2⟩ (lvh_agL hag hc wl hl)
  rw [vls_agL hag hc wv] at h
  exact h
theorem x_madeL {k z N q : Nat} {e : va_E} {H1 : Heap} {locs : List Loc} {ls : Array Slot} (hO : okE E M) (hSC : S.1 < SC) (wf : wfS S) (wl : oklsL S.1 lv) (wv : okvsL S.1 st) (he : hcell E.1.2.2.1 (va_up ad S.1 q) (nw S k z) S.1 = e) (hl : lvh ad M.2.2.1 ls lv)
    (hP : va_P E.1.2.1 vwCl (wld E.1.2.2.1 ad S ++ [(q, e)]) H1) (hD : va_D (fun q => E.1.2.2.2 ≤ q) (wld E.1.2.2.1 ad S ++ [(q, e)])) (hS : va_S (fun q => E.1.2.2.2 ≤ q) E.2.1.2.2.1.heap H1 locs) {pc' : Nat}
    (kk : ∀ ad', (∀ i, i < S.1 → ad' i = ad i) → ad' SC = ad SC → X E M (n1 + 1) (n2 + N) ad' (nw S k z) pc' lv (aA S.1 :: st)) : W E.2.1.1 E.1.1 E.2.1.2.1 M.2.2.2.1 E.2.1.2.2.1 E.2.1.2.2.2.1 E.2.2.1 E.2.1.2.2.2.2.1 E.2.1.2.2.2.2.2.1 E.2.1.2.2.2.2.2.2 H1 locs (n1 + 1) (n2 + N) E.2.2.2 (F0 E.2.1.2.2.2.1 pc' ls (.ref q :: st.map (vl ad))) := by
  rw [wld_nw wf he] at hP hD
  have hag : ∀ i, i < S.1 → va_up ad S.1 q i = ad i := fun i hi => va_up_off _ _ (Nat.ne_of_lt hi)
  have hc : va_up ad S.1 q SC = ad SC := va_up_off _ _ (Nat.ne_of_gt hSC)
  have h := kk _ hag hc hO H1 locs ls ⟨hP, hD, hS⟩ (lvh_agL hag hc wl hl)
  have e2 : (aA S.1 :: st).map (vl (va_up ad S.1 q)) = Value.ref q :: st.map (vl ad) := by
    rw [List.map_cons, vls_agL hag hc wv]
    exact congrArg (fun z => Value.ref z :: st.map (vl ad)) (va_up_at _ _ _)
  rw [e2] at h
  exact h
theorem x_newOL {k idx N : Nat} {C : String} {T : u_T} (ty : Nat → FieldType) (hc : vwCl[k + 1]? = some (C, T, N)) (hk8 : k < 8) (hty : ∀ j, j < N → parseFieldDescriptor (T j).2.2.1 = some (ty j)) (hin : ∀ w ∈ u_ws C T N, w ∈ tbG) (hdf : ∀ j, j < N → defaultValue (ty j) = vp_V (dfl k) j)
    (w1 : Cond.classLink M.1.cls idx C ∈ lw_tbl) (w2 : Cond.instantiable C N ∈ lw_tbl) (w3 : Cond.initialized C ∈ lw_tbl) (hd : decode M.2.1 pc = .ok (.new idx, 3)) (hf : n1 + 1 ≤ M.2.2.2.1.cells ∧ n2 + N ≤ M.2.2.2.1.slots) (hSC : S.1 < SC) (wf : wfS S) (wl : oklsL S.1 lv) (wv : okvsL S.1 st)
    (kk : ∀ ad', (∀ i, i < S.1 → ad' i = ad i) → ad' SC = ad SC → X E M (n1 + 1) (n2 + N) ad' (nw S k 0) (pc + 3) lv (aA S.1 :: st)) : X E M n1 n2 ad S pc lv st := by
  intro hO H locs ls hW hl
  refine va_new (ci := k + 1) (fs := dfl k) hO.1 hO.2.1 hO.2.2.2.2.1 hin ty hty hO.2.2.2.1 (hO.2.2.2.2.1 _ (tbG_in w1 rfl)) (hO.2.2.2.2.1 _ (tbG_in w2 rfl)) (hO.2.2.2.2.1 _ (tbG_in w3 rfl)) hO.2.2.2.2.2.1 hW.1 hW.2.1 hW.2.2 (fun q hq => Nat.le_trans hO.2.2.2.2.2.2.1 hq) hc hdf hf.1 hf.2 hd (fun q H1 hP hD hS => ?_)
  exact x_madeL hO hSC wf wl wv ((hcell_o k hk_nw hk8).trans (congrArg (fun l => (Sum.inr (k + 1, l) : va_E)) (fvs_nw (fty k) 0))) hl hP hD hS kk
theorem x_newJL {n : Int32} {N : Nat} (hn : ¬ n < 0) (hN : n.toNatClampNeg = N) (hb : N * 8 ≤ 536870912) (hd : decode M.2.1 pc = .ok (.newarray .long, 2)) (hf : n1 + 1 ≤ M.2.2.2.1.cells ∧ n2 + N ≤ M.2.2.2.1.slots) (hSC : S.1 < SC) (wf : wfS S) (wl : oklsL S.1 lv) (wv : okvsL S.1 st)
    (kk : ∀ ad', (∀ i, i < S.1 → ad' i = ad i) → ad' SC = ad SC → X E M (n1 + 1) (n2 + N) ad' (nw S 9 N) (pc + 2) lv (aA S.1 :: st)) : X E M n1 n2 ad S pc lv (aI n :: st) := by
  intro hO H locs ls hW hl
  refine va_newa (atype := .long) (ty := .long) (a0 := (N, .inr (.inl (fun _ => 0)))) hO.1 hO.2.1 (hO.2.2.2.2.1 _ (tbG_in wAJ rfl)) rfl hO.2.2.2.2.2.1 hW.1 hW.2.1 hW.2.2 (fun q hq => Nat.le_trans hO.2.2.2.2.2.2.1 hq) (fun _ => rfl) hn hN hb hf.1 hf.2 hd (fun q cA H1 hK hP hD hS => ?_)
  obtain rfl := cA_eq 1 (E.1.2.2.1 9) rfl (fun _ h => h) hK
  refine x_madeL hO hSC wf wl wv ?_ hl hP hD hS kk
  rw [hcell_j hk_nw, hz_nw, show hj (nw S 9 N) S.1 = fun _ => 0 from funext fun j => if_pos rfl]
/-- an ordinary constructor, called from the law -/
theorem x_callIL {Mc : mt} {own : String} {idx n a : Nat} {As : List av} (hc : cokA own Mc idx n) (hM : M.1.cls = own) (hR : cokRA M Mc) (hd : decode M.2.1 pc = .ok (.invokespecial idx, 3)) (hn : As.length = n) (hs0 : slen st ≤ 8) (hf : n1 + Mc.2.2.2.1.cells ≤ M.2.2.2.1.cells ∧ n2 + Mc.2.2.2.1.slots ≤ M.2.2.2.1.slots) (hX : xtra E.2.1.2.2.1) (wl : oklsL S.1 lv) (wv : okvsL S.1 st) (hC : ctA E.1 Mc (aA a :: As) S Post) (hPw : ∀ S', Post S' → wfS S' ∧ S'.1 ≤ SC)
    (kk : ∀ S' ad', (∀ i, i < S.1 → ad' i = ad i) → ad' SC = ad SC → Post S' → X E M (n1 + Mc.2.2.2.1.cells) (n2 + Mc.2.2.2.1.slots) ad' S' (pc + 3) lv st) : X E M n1 n2 ad S pc lv (As.reverse ++ aA a :: st) := by
  subst hM
  obtain ⟨y, bb, nLc, Rc, rt⟩ := Mc
  have h6 : rt = none := hc.2.2.2
  subst h6
  intro hO H locs ls hW hl
  rw [List.map_append, List.map_reverse]
  have hr := va_runI (e := E.2.1.2.1) (below := E.2.1.2.2.2.2.1) (meth := E.2.1.2.2.2.2.2.1) (n := n) (As := As.map (vl ad)) (rest := st.map (vl ad)) (g := F0 E.2.1.2.2.2.1 pc ls ((As.map (vl ad)).reverse ++ (aA a :: st).map (vl ad))) (locs := locs) (H := H) (cells := n1) (slots := n2) ⟨hO.1, hO.2.1, hO.2.2.1, hO.2.2.2.1, hO.2.2.2.2.1⟩ (hC ad) ⟨callB_a hO hc.1 hR, hc.2.1, hO.2.2.2.2.1 _ (tbG_in hc.2.2.1 rfl)⟩ ⟨pA_blind, pA_at hO hX hW⟩ rfl (by rw [List.length_map]; exact hn) hl.1 rfl (lv_room (by rw [slen_sum]; exact hs0)) hd hf
  intro T hT XX
  obtain ⟨v, st₀, t, T', L, h0, X', hL, e1, e2, ⟨⟨S', ad', hv, hag, hle, hp, hP, hK, hD⟩, hz, hk⟩, hst⟩ := hr T hT XX
  have hv : v = none := Outcome.returned.inj hv
  subst hv
  rw [h0] at hz hk
  have hS := hW.2.2
  have hS' : va_S (fun q => E.1.2.2.2 ≤ q) E.2.1.2.2.1.heap T'.heap (locs ++ L) := ⟨Nat.le_trans hS.1 (by rw [e1]; exact hz), fun q h1 h2 => by rw [e1, hk q (Nat.lt_of_lt_of_le h1 hS.1) h2]; exact hS.2.1 q h1 h2, fun q hq => by
      rcases List.mem_append.mp hq with h | h
      · exact hS.2.2 q h
      · exact hL q h⟩
  obtain ⟨wf', hSC'⟩ := hPw S' hp
  have hag2 : ∀ i, i < S'.1 → va_up ad' SC (ad SC) i = ad' i := fun i hi => va_up_off _ _ (by omega)
  have hag3 : ∀ i, i < S.1 → va_up ad' SC (ad SC) i = ad i := fun i hi => (hag2 i (by omega)).trans (hag i hi)
  have hc2 : va_up ad' SC (ad SC) SC = ad SC := va_up_at _ _ _
  obtain ⟨t2, a1, b1⟩ := kk S' (va_up ad' SC (ad SC)) hag3 hc2 hp hO T'.heap (locs ++ L) ls ⟨by rw [e1, wld_ad wf' hag2]; exact hP, by rw [wld_ad wf' hag2]; exact hD, hS'⟩ (lvh_agL hag3 hc2 wl hl) T' rfl X'
  rw [vls_agL hag3 hc2 wv] at a1
  exact ⟨t2, hst t2 a1, b1⟩
end
