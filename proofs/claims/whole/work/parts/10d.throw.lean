theorem sbn_eq {s t : State} {k n : Nat} (h : s.sameButNew t [] k n) : ∀ q : Nat, q < s.heap.size → t.heap[q]? = s.heap[q]? := by
  intro q hq
  have hc : s.heap[q]? = some s.heap[q] := Array.getElem?_eq_getElem hq
  obtain ⟨c', h1, h2, h3, h4⟩ := h.2.2.2.2.2 q _ hc
  have e : c'.slots = s.heap[q].slots := by
    apply Array.ext_getElem?
    intro i
    exact h4 i (by simp)
  rw [h1, hc, h2, e]
theorem w_e64 : Cond.classLink RX6 64 eX ∈ lw_tbl := List.mem_append_right _ (List.mem_of_getElem? (i := 665) (by decide +kernel))
theorem w_eI : Cond.instantiable eX 6 ∈ lw_tbl := List.mem_append_right _ (List.mem_of_getElem? (i := 666) (by decide +kernel))
theorem w_eN : Cond.initialized eX ∈ lw_tbl := by decide +kernel
set_option maxHeartbeats 4000000 in
theorem wX6_corner {E : en} {ad : Nat → Nat} {PostT : hs → Prop} {Post : Int32 → hs → Prop} {v0 : Nat} {v1 : Int32} {v2 v4 : Int64} {S : hs} (hfl : E.1.1.flags = flags0) (hQ : isQT E ad PostT (pI Post)) (hT0 : thX E.1.2.2.2 E.2.1.2.2.1) (hcov : ∀ x ∈ E.2.1.2.2.2.2.2.2.exceptionTable.toList, covers x 15 = false)
    (h : PX6_corner v0 v1 v2 v4 S PostT Post) (hO : okE E mX6_corner) (hW0 : wd E ad S E.2.1.2.2.1.heap []) {ls : Array Slot} (hl : lvh ad 6 ls [(0, aA v0), (1, aI v1), (2, aJ v2), (4, aJ v4)]) :
    W E.2.1.1 E.1.1 E.2.1.2.1 mX6_corner.2.2.2.1 E.2.1.2.2.1 E.2.1.2.2.2.1 E.2.2.1 E.2.1.2.2.2.2.1 E.2.1.2.2.2.2.2.1 E.2.1.2.2.2.2.2.2 E.2.1.2.2.1.heap [] 0 0 E.2.2.2 (F0 E.2.1.2.2.2.1 0 ls []) := by
  obtain ⟨h1, r, h2, h3, hn, hy⟩ := h
  refine lv_aload_n hO.1 hO.2.1 dX6_corner_0 rfl (hl.2.2 0 (aA v0) rfl) ?_
  refine lv_iload_n hO.1 hO.2.1 dX6_corner_1 rfl (hl.2.2 1 (aI v1) rfl) ?_
  have hc := kX6_60
  obtain ⟨hc1, hc2, hc3, hc4, hc5⟩ := hc
  obtain ⟨q, hq, hq1⟩ := Option.map_eq_some_iff.mp hc4
  have hrec : ∃ cell : Cell, E.2.1.2.2.1.heap[ad v0]? = some cell ∧ cell.vm.isStatics = false ∧ E.2.1.2.2.1.vm.findClass RX6 = some cell.cls := by
    have h9 := va_recv hO.2.2.2.2.2.1 hW0.1 hq (wd_at hW0 h1.1 (hcell_o 6 h1.2 hc5))
    rw [hq1] at h9
    exact h9
  refine W.callR (W.runV (C := RX6) (As := [.int v1]) (rest := []) ⟨hO.1, hO.2.1, hO.2.2.1, hO.2.2.2.1, hO.2.2.2.2.1⟩ (metIsArea E.1 h1 h2 h3 ad) ⟨callB_x (Mc := mX6_isArea) hO hc1 ⟨rfl, rfl, by decide, by decide⟩, hO.2.2.2.2.1 _ (tbG_in hc2 rfl), hO.2.2.2.2.1 _ (tbG_in hc3 rfl)⟩ ⟨pN_blind, hrec, pN_at (As := [aA v0, aI v1]) hO hW0⟩ rfl rfl hl.1 rfl (lv_room (Nat.le_of_ble_eq_true rfl)) dX6_corner_2 ⟨by decide, by decide⟩) ?_
  refine W.eq (g2 := F0 E.2.1.2.2.2.1 5 ls [.int (if v1 < 0 ∨ nI (hz S r) ≤ v1 then 0 else 1)]) rfl ?_
  refine lv_if_ne (tgt := 16) hO.1 hO.2.1 dX6_corner_5 (by decide) (fun c1 => ?_) (fun c1 => ?_)
  · have hc : ¬ (v1 < 0 ∨ nI (hz S r) ≤ v1) := fun q => c1 (by rw [if_pos q])
    exact xX6_corner_16 hQ v0 v1 v2 v4 S (hy hc) hO _ [] ls hW0 hl
  · have hc : v1 < 0 ∨ nI (hz S r) ≤ v1 := by
      rcases Classical.em (v1 < 0 ∨ nI (hz S r) ≤ v1) with q | q
      · exact q
      · rw [if_neg q] at c1
        exact absurd c1 (by decide)
    obtain ⟨cC, hCA⟩ := classAt_of (hO.2.2.2.2.1 _ (tbG_in w_eI rfl))
    refine W.newcK hO.1 hO.2.1 hO.2.2.2.1 (hO.2.2.2.2.1 _ (tbG_in w_e64 rfl)) (hO.2.2.2.2.1 _ (tbG_in w_eI rfl)) (hO.2.2.2.2.1 _ (tbG_in w_eN rfl)) rfl dX6_corner_8 (by decide) (by decide) hCA.1 rfl (fun H' kC hkC hcell hsz hold => ?_)
    refine W.eq (g2 := F0 E.2.1.2.2.2.1 11 ls [.ref E.2.1.2.2.1.heap.size]) rfl ?_
    refine lv_dup hO.1 hO.2.1 dX6_corner_11 rfl ?_
    intro T hT XX
    obtain ⟨U, st, hrun, hend, hwarm, hsame, ce, hce, hoc⟩ := XX.ctorThrow0 (own := RX6) (cls := eX) (names := eN) (ic := 66) (a := E.2.1.2.2.1.heap.size) (g := F0 E.2.1.2.2.2.1 12 ls [.ref E.2.1.2.2.1.heap.size, .ref E.2.1.2.2.1.heap.size]) (rest := []) hO.1 (Launch.traces_off hfl XX.admits) hO.2.2.2.1 (by decide +kernel) (by decide +kernel) (ow_hold hO.2.2.2.2.1 hT0) (fun x hx => by cases hx) hCA.1 hkC (by rw [hT]; exact hcell) (Nat.le_refl _) rfl (hl.1.trans hO.2.2.1.symm) rfl rfl rfl (by rw [hO.2.1]; exact dX6_corner_12) (by rw [hO.2.1]; exact dX6_corner_15) hcov (by decide) (Nat.le_of_ble_eq_true rfl) hO.2.2.2.2.2.2.2.2.2
    have hk := sbn_eq hsame
    refine ⟨U, st, ?_⟩
    rw [show E.2.2.2 = _ from hQ]
    refine Or.inr ⟨_, ce, S, hrun, hend, hwarm, ⟨[], hsame, fun q hq => by cases hq⟩, hce, hoc.vm, hoc.cls, hoc.self, hn hc, ?_, hW0.2.1, hsame.2.1, fun q h1 _ => hk q h1⟩
    exact hW0.1.kept (fun k x hx => hk x.1 ((hW0.1 k x hx).lt))
