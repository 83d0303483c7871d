abbrev mX6_entry : mt := (yX6_entry, cX6_entry, 3, { frames := 2, cells := 0, slots := 0, locals := 42 }, (some .long))
theorem we_0 : Cond.constantLong RX6 149 (-2) ∈ lw_tbl := List.mem_append_right _ (List.mem_of_getElem? (i := 544) (by decide +kernel))
theorem kcX6_149 : Cond.constantLong RX6 149 (-2) ∈ tbG := tbG_in we_0 rfl
theorem we_1 : Cond.methodLink RX6 135 yX1_pieceOf ∈ lw_tbl := List.mem_append_right _ (List.mem_of_getElem? (i := 526) (by decide +kernel))
theorem we_2 : Cond.initialized "AreaCrossings$Crossings" ∈ lw_tbl := List.mem_append_right _ (List.mem_of_getElem? (i := 8) (by decide +kernel))
theorem we_3 : Cond.code yX1_pieceOf cX1_pieceOf 2 (some .int) ∈ lw_tbl := List.mem_append_right _ (List.mem_of_getElem? (i := 529) (by decide +kernel))
theorem we_4 : Cond.instanceMethod yX1_pieceOf ∈ lw_tbl := List.mem_append_right _ (List.mem_of_getElem? (i := 527) (by decide +kernel))
theorem we_5 : Cond.selects "AreaCrossings$Crossings" yX1_pieceOf yX1_pieceOf ∈ lw_tbl := List.mem_append_right _ (List.mem_of_getElem? (i := 528) (by decide +kernel))
theorem kX6_135 : cokV RX6 mX1_pieceOf 135 1 1 := ⟨⟨we_1, we_2, we_3, by decide +kernel, by decide +kernel, by decide +kernel⟩, we_4, we_5, by decide +kernel, by decide⟩
theorem we_6 : Cond.methodLink RX6 139 yX1_overOf ∈ lw_tbl := List.mem_append_right _ (List.mem_of_getElem? (i := 531) (by decide +kernel))
theorem we_7 : Cond.code yX1_overOf cX1_overOf 2 (some .long) ∈ lw_tbl := List.mem_append_right _ (List.mem_of_getElem? (i := 534) (by decide +kernel))
theorem we_8 : Cond.instanceMethod yX1_overOf ∈ lw_tbl := List.mem_append_right _ (List.mem_of_getElem? (i := 532) (by decide +kernel))
theorem we_9 : Cond.selects "AreaCrossings$Crossings" yX1_overOf yX1_overOf ∈ lw_tbl := List.mem_append_right _ (List.mem_of_getElem? (i := 533) (by decide +kernel))
theorem kX6_139 : cokV RX6 mX1_overOf 139 1 1 := ⟨⟨we_6, we_2, we_7, by decide +kernel, by decide +kernel, by decide +kernel⟩, we_8, we_9, by decide +kernel, by decide⟩
theorem we_10 : Cond.methodLink RX6 143 yX1_underOf ∈ lw_tbl := List.mem_append_right _ (List.mem_of_getElem? (i := 536) (by decide +kernel))
theorem we_11 : Cond.code yX1_underOf cX1_underOf 2 (some .long) ∈ lw_tbl := List.mem_append_right _ (List.mem_of_getElem? (i := 539) (by decide +kernel))
theorem we_12 : Cond.instanceMethod yX1_underOf ∈ lw_tbl := List.mem_append_right _ (List.mem_of_getElem? (i := 537) (by decide +kernel))
theorem we_13 : Cond.selects "AreaCrossings$Crossings" yX1_underOf yX1_underOf ∈ lw_tbl := List.mem_append_right _ (List.mem_of_getElem? (i := 538) (by decide +kernel))
theorem kX6_143 : cokV RX6 mX1_underOf 143 1 1 := ⟨⟨we_10, we_2, we_11, by decide +kernel, by decide +kernel, by decide +kernel⟩, we_12, we_13, by decide +kernel, by decide⟩
theorem we_14 : Cond.methodLink RX6 146 yX1_areaOf ∈ lw_tbl := List.mem_append_right _ (List.mem_of_getElem? (i := 540) (by decide +kernel))
theorem we_15 : Cond.code yX1_areaOf cX1_areaOf 2 (some .int) ∈ lw_tbl := List.mem_append_right _ (List.mem_of_getElem? (i := 543) (by decide +kernel))
theorem we_16 : Cond.instanceMethod yX1_areaOf ∈ lw_tbl := List.mem_append_right _ (List.mem_of_getElem? (i := 541) (by decide +kernel))
theorem we_17 : Cond.selects "AreaCrossings$Crossings" yX1_areaOf yX1_areaOf ∈ lw_tbl := List.mem_append_right _ (List.mem_of_getElem? (i := 542) (by decide +kernel))
theorem kX6_146 : cokV RX6 mX1_areaOf 146 1 1 := ⟨⟨we_14, we_2, we_15, by decide +kernel, by decide +kernel, by decide +kernel⟩, we_16, we_17, by decide +kernel, by decide⟩
def PX6_entry (v0 : Nat) (v1 : Int32) (v2 : Int32) (S : hs) (Post : Int64 → hs → Prop) : Prop := (is S 6 v0 ∧ ∃ r_1, hr S v0 5 = some r_1 ∧ (is S 1 r_1 ∧ (PX1_has r_1 v1 S  (fun x_5 S_5 => ((x_5 = 0 → Post (-1) S_5) ∧ (¬ x_5 = 0 → (((Int32.toInt v2) = 0 → (is S_5 6 v0 ∧ ∃ r_49, hr S_5 v0 5 = some r_49 ∧ (is S_5 1 r_49 ∧ (PX1_pieceOf r_49 v1 S_5  (fun x_53 S_53 => Post (Int32.toInt64 x_53) S_53))))) ∧ ((Int32.toInt v2) = 1 → (is S_5 6 v0 ∧ ∃ r_59, hr S_5 v0 5 = some r_59 ∧ (is S_5 1 r_59 ∧ (PX1_overOf r_59 v1 S_5  (fun x_63 S_63 => Post x_63 S_63))))) ∧ ((Int32.toInt v2) = 2 → (is S_5 6 v0 ∧ ∃ r_68, hr S_5 v0 5 = some r_68 ∧ (is S_5 1 r_68 ∧ (PX1_underOf r_68 v1 S_5  (fun x_72 S_72 => Post x_72 S_72))))) ∧ ((Int32.toInt v2) = 3 → (is S_5 6 v0 ∧ ∃ r_77, hr S_5 v0 5 = some r_77 ∧ (is S_5 1 r_77 ∧ (PX1_areaOf r_77 v1 S_5  (fun x_81 S_81 => Post (Int32.toInt64 x_81) S_81))))) ∧ ((Int32.toInt v2) < 0 ∨ 3 < (Int32.toInt v2) → Post (-2) S_5))))))))
set_option maxRecDepth 100000 in
set_option maxHeartbeats 4000000 in
theorem ctX6_entry {G : Launch × va_G × (Nat → ClassId) × Nat} {v0 : Nat} {v1 : Int32} {v2 : Int32} {S : hs} {Post : Int64 → hs → Prop} (h : PX6_entry v0 v1 v2 S Post) : ctN G mX6_entry [aA v0, aI v1, aI v2] S (pJ Post) := by
  refine ctN.of (by decide) (Nat.le_of_ble_eq_true rfl) (fun E ad hG hQ => ?_)
  subst hG
  unfold PX6_entry at h
  refine x_aload_n dX6_entry_0 rfl ?_
  obtain ⟨h1, r_1, hr_1, h⟩ := h
  refine x_g6_5 rfl dX6_entry_1 h1 (x_un hr_1 ?_)
  refine x_iload_n dX6_entry_4 rfl ?_
  obtain ⟨h1, h⟩ := h
  refine x_callVI (As := [aI v1]) (st := []) kX6_130 rfl ⟨rfl, rfl, by decide, by decide⟩ dX6_entry_5 rfl (Nat.le_of_ble_eq_true rfl) ⟨Nat.zero_le _, Nat.zero_le _⟩ h1 (ctX1_has h) (fun x_5 S_5 h => ?_)
  refine x_if_ne (tgt := 15) dX6_entry_8 (by decide) (fun c => ?_) (fun c => ?_)
  · replace h := h.2 c
    refine x_iload_n dX6_entry_15 rfl ?_
    refine x_tsw dX6_entry_16 (by decide) (fun j off ho => ?_) (by decide) (fun j off ho hx tgt ht => ?_) (fun tgt hx ht => ?_)
    · have hj : j < 4 := (Array.getElem?_eq_some_iff.mp ho).1
      obtain rfl | rfl | rfl | rfl : j = 0 ∨ j = 1 ∨ j = 2 ∨ j = 3 := by omega
      · obtain rfl : (32 : Int) = off := Option.some.inj ho
        decide
      · obtain rfl : (42 : Int) = off := Option.some.inj ho
        decide
      · obtain rfl : (51 : Int) = off := Option.some.inj ho
        decide
      · obtain rfl : (60 : Int) = off := Option.some.inj ho
        decide
    · have hj : j < 4 := (Array.getElem?_eq_some_iff.mp ho).1
      obtain rfl | rfl | rfl | rfl : j = 0 ∨ j = 1 ∨ j = 2 ∨ j = 3 := by omega
      · obtain rfl : (32 : Int) = off := Option.some.inj ho
        obtain rfl : tgt = 48 := by omega
        replace h := h.1 (by omega)
        refine x_aload_n dX6_entry_48 rfl ?_
        obtain ⟨h1, r_49, hr_49, h⟩ := h
        refine x_g6_5 rfl dX6_entry_49 h1 (x_un hr_49 ?_)
        refine x_iload_n dX6_entry_52 rfl ?_
        obtain ⟨h1, h⟩ := h
        refine x_callVI (As := [aI v1]) (st := []) kX6_135 rfl ⟨rfl, rfl, by decide, by decide⟩ dX6_entry_53 rfl (Nat.le_of_ble_eq_true rfl) ⟨Nat.zero_le _, Nat.zero_le _⟩ h1 (ctX1_pieceOf h) (fun x_53 S_53 h => ?_)
        refine x_i2l dX6_entry_56 ?_
        exact x_lret hQ rfl dX6_entry_57 ⟨_, rfl, h⟩
      · obtain rfl : (42 : Int) = off := Option.some.inj ho
        obtain rfl : tgt = 58 := by omega
        replace h := h.2.1 (by omega)
        refine x_aload_n dX6_entry_58 rfl ?_
        obtain ⟨h1, r_59, hr_59, h⟩ := h
        refine x_g6_5 rfl dX6_entry_59 h1 (x_un hr_59 ?_)
        refine x_iload_n dX6_entry_62 rfl ?_
        obtain ⟨h1, h⟩ := h
        refine x_callVJ (As := [aI v1]) (st := []) kX6_139 rfl ⟨rfl, rfl, by decide, by decide⟩ dX6_entry_63 rfl (Nat.le_of_ble_eq_true rfl) ⟨Nat.zero_le _, Nat.zero_le _⟩ h1 (ctX1_overOf h) (fun x_63 S_63 h => ?_)
        exact x_lret hQ rfl dX6_entry_66 ⟨_, rfl, h⟩
      · obtain rfl : (51 : Int) = off := Option.some.inj ho
        obtain rfl : tgt = 67 := by omega
        replace h := h.2.2.1 (by omega)
        refine x_aload_n dX6_entry_67 rfl ?_
        obtain ⟨h1, r_68, hr_68, h⟩ := h
        refine x_g6_5 rfl dX6_entry_68 h1 (x_un hr_68 ?_)
        refine x_iload_n dX6_entry_71 rfl ?_
        obtain ⟨h1, h⟩ := h
        refine x_callVJ (As := [aI v1]) (st := []) kX6_143 rfl ⟨rfl, rfl, by decide, by decide⟩ dX6_entry_72 rfl (Nat.le_of_ble_eq_true rfl) ⟨Nat.zero_le _, Nat.zero_le _⟩ h1 (ctX1_underOf h) (fun x_72 S_72 h => ?_)
        exact x_lret hQ rfl dX6_entry_75 ⟨_, rfl, h⟩
      · obtain rfl : (60 : Int) = off := Option.some.inj ho
        obtain rfl : tgt = 76 := by omega
        replace h := h.2.2.2.1 (by omega)
        refine x_aload_n dX6_entry_76 rfl ?_
        obtain ⟨h1, r_77, hr_77, h⟩ := h
        refine x_g6_5 rfl dX6_entry_77 h1 (x_un hr_77 ?_)
        refine x_iload_n dX6_entry_80 rfl ?_
        obtain ⟨h1, h⟩ := h
        refine x_callVI (As := [aI v1]) (st := []) kX6_146 rfl ⟨rfl, rfl, by decide, by decide⟩ dX6_entry_81 rfl (Nat.le_of_ble_eq_true rfl) ⟨Nat.zero_le _, Nat.zero_le _⟩ h1 (ctX1_areaOf h) (fun x_81 S_81 h => ?_)
        refine x_i2l dX6_entry_84 ?_
        exact x_lret hQ rfl dX6_entry_85 ⟨_, rfl, h⟩
    · obtain rfl : tgt = 86 := by omega
      replace h := h.2.2.2.2 hx
      refine x_ldc2 (v := (-2)) dX6_entry_86 kcX6_149 ?_
      exact x_lret hQ rfl dX6_entry_89 ⟨_, rfl, h⟩
  · replace h := h.1 c
    refine x_ldc2 (v := (-1)) dX6_entry_11 kcX6_133 ?_
    exact x_lret hQ rfl dX6_entry_14 ⟨_, rfl, h⟩
