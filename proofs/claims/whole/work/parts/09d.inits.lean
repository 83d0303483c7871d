theorem wa_0 : Cond.methodLink RX2 1 Lib.objectInit ∈ lw_tbl := List.mem_append_right _ (List.mem_of_getElem? (i := 42) (by decide +kernel))
theorem wa_1 : Cond.methodLink RX1 1 Lib.objectInit ∈ lw_tbl := List.mem_append_right _ (List.mem_of_getElem? (i := 152) (by decide +kernel))
theorem wa_2 : Cond.methodLink RX3 1 Lib.objectInit ∈ lw_tbl := List.mem_append_right _ (List.mem_of_getElem? (i := 72) (by decide +kernel))
theorem wa_3 : Cond.methodLink RX4 5 Lib.objectInit ∈ lw_tbl := List.mem_append_right _ (List.mem_of_getElem? (i := 115) (by decide +kernel))
theorem wa_4 : Cond.methodLink RX5 1 Lib.objectInit ∈ lw_tbl := List.mem_append_right _ (List.mem_of_getElem? (i := 95) (by decide +kernel))
theorem wa_5 : Cond.classLink RX0 9 RX2 ∈ lw_tbl := List.mem_append_right _ (List.mem_of_getElem? (i := 36) (by decide +kernel))
theorem wa_6 : Cond.instantiable RX2 3 ∈ lw_tbl := List.mem_append_right _ (List.mem_of_getElem? (i := 38) (by decide +kernel))
theorem wa_7 : Cond.initialized RX2 ∈ lw_tbl := List.mem_append_right _ (List.mem_of_getElem? (i := 4) (by decide +kernel))
theorem wa_8 : Cond.methodLink RX0 1 Lib.objectInit ∈ lw_tbl := List.mem_append_right _ (List.mem_of_getElem? (i := 35) (by decide +kernel))
theorem wa_9 : Cond.classLink RX6 43 RX4 ∈ lw_tbl := List.mem_append_right _ (List.mem_of_getElem? (i := 110) (by decide +kernel))
theorem wa_10 : Cond.instantiable RX4 10 ∈ lw_tbl := List.mem_append_right _ (List.mem_of_getElem? (i := 111) (by decide +kernel))
theorem wa_11 : Cond.initialized RX4 ∈ lw_tbl := List.mem_append_right _ (List.mem_of_getElem? (i := 7) (by decide +kernel))
theorem wa_12 : Cond.classLink RX6 50 RX1 ∈ lw_tbl := List.mem_append_right _ (List.mem_of_getElem? (i := 147) (by decide +kernel))
theorem wa_13 : Cond.instantiable RX1 6 ∈ lw_tbl := List.mem_append_right _ (List.mem_of_getElem? (i := 148) (by decide +kernel))
theorem wa_14 : Cond.initialized RX1 ∈ lw_tbl := List.mem_append_right _ (List.mem_of_getElem? (i := 8) (by decide +kernel))
theorem wa_15 : Cond.classLink RX6 32 RX5 ∈ lw_tbl := List.mem_append_right _ (List.mem_of_getElem? (i := 89) (by decide +kernel))
theorem wa_16 : Cond.instantiable RX5 4 ∈ lw_tbl := List.mem_append_right _ (List.mem_of_getElem? (i := 91) (by decide +kernel))
theorem wa_17 : Cond.initialized RX5 ∈ lw_tbl := List.mem_append_right _ (List.mem_of_getElem? (i := 6) (by decide +kernel))
theorem wa_18 : Cond.classLink RX6 25 RX3 ∈ lw_tbl := List.mem_append_right _ (List.mem_of_getElem? (i := 67) (by decide +kernel))
theorem wa_19 : Cond.instantiable RX3 5 ∈ lw_tbl := List.mem_append_right _ (List.mem_of_getElem? (i := 68) (by decide +kernel))
theorem wa_20 : Cond.initialized RX3 ∈ lw_tbl := List.mem_append_right _ (List.mem_of_getElem? (i := 5) (by decide +kernel))
theorem wa_21 : Cond.classLink RX6 18 RX0 ∈ lw_tbl := List.mem_append_right _ (List.mem_of_getElem? (i := 29) (by decide +kernel))
theorem wa_22 : Cond.instantiable RX0 4 ∈ lw_tbl := List.mem_append_right _ (List.mem_of_getElem? (i := 31) (by decide +kernel))
theorem wa_23 : Cond.initialized RX0 ∈ lw_tbl := List.mem_append_right _ (List.mem_of_getElem? (i := 3) (by decide +kernel))
theorem wa_24 : Cond.methodLink RX6 1 Lib.objectInit ∈ lw_tbl := List.mem_append_right _ (List.mem_of_getElem? (i := 20) (by decide +kernel))
theorem wa_25 : Cond.methodLink RX7 1 Lib.objectInit ∈ lw_tbl := List.mem_append_right _ (List.mem_of_getElem? (i := 740) (by decide +kernel))
theorem wa_26 : Cond.methodLink RX6 9 yJ9_min_7cf53 ∈ lw_tbl := List.mem_append_right _ (List.mem_of_getElem? (i := 23) (by decide +kernel))
theorem wa_27 : Cond.initialized "java/lang/Math" ∈ lw_tbl := List.mem_append_right _ (List.mem_of_getElem? (i := 2) (by decide +kernel))
theorem wa_28 : Cond.code yJ9_min_7cf53 cJ9_min_7cf53 2 (some .int) ∈ lw_tbl := List.mem_append_right _ (List.mem_of_getElem? (i := 25) (by decide +kernel))
theorem wa_29 : Cond.static yJ9_min_7cf53 ∈ lw_tbl := List.mem_append_right _ (List.mem_of_getElem? (i := 24) (by decide +kernel))
theorem wa_30 : Cond.methodLink RX6 15 yJ9_max_7cf53 ∈ lw_tbl := List.mem_append_right _ (List.mem_of_getElem? (i := 26) (by decide +kernel))
theorem wa_31 : Cond.code yJ9_max_7cf53 cJ9_max_7cf53 2 (some .int) ∈ lw_tbl := List.mem_append_right _ (List.mem_of_getElem? (i := 28) (by decide +kernel))
theorem wa_32 : Cond.static yJ9_max_7cf53 ∈ lw_tbl := List.mem_append_right _ (List.mem_of_getElem? (i := 27) (by decide +kernel))
theorem wa_33 : Cond.initialized "AreaCrossings$Crossings" ∈ lw_tbl := List.mem_append_right _ (List.mem_of_getElem? (i := 8) (by decide +kernel))
theorem wa_34 : Cond.code yX1_init cX1_init 1 none ∈ lw_tbl := List.mem_append_right _ (List.mem_of_getElem? (i := 151) (by decide +kernel))
theorem wa_35 : Cond.instanceMethod yX1_init ∈ lw_tbl := List.mem_append_right _ (List.mem_of_getElem? (i := 150) (by decide +kernel))
theorem wa_36 : Cond.initialized "AreaCrossings$Ring" ∈ lw_tbl := List.mem_append_right _ (List.mem_of_getElem? (i := 4) (by decide +kernel))
theorem wa_37 : Cond.code yX2_init cX2_init 1 none ∈ lw_tbl := List.mem_append_right _ (List.mem_of_getElem? (i := 41) (by decide +kernel))
theorem wa_38 : Cond.instanceMethod yX2_init ∈ lw_tbl := List.mem_append_right _ (List.mem_of_getElem? (i := 40) (by decide +kernel))
theorem wa_39 : Cond.initialized "AreaCrossings$Rules" ∈ lw_tbl := List.mem_append_right _ (List.mem_of_getElem? (i := 5) (by decide +kernel))
theorem wa_40 : Cond.code yX3_init cX3_init 1 none ∈ lw_tbl := List.mem_append_right _ (List.mem_of_getElem? (i := 71) (by decide +kernel))
theorem wa_41 : Cond.instanceMethod yX3_init ∈ lw_tbl := List.mem_append_right _ (List.mem_of_getElem? (i := 70) (by decide +kernel))
theorem wa_42 : Cond.initialized "AreaCrossings$Stretches" ∈ lw_tbl := List.mem_append_right _ (List.mem_of_getElem? (i := 7) (by decide +kernel))
theorem wa_43 : Cond.code yX4_init cX4_init 1 none ∈ lw_tbl := List.mem_append_right _ (List.mem_of_getElem? (i := 114) (by decide +kernel))
theorem wa_44 : Cond.instanceMethod yX4_init ∈ lw_tbl := List.mem_append_right _ (List.mem_of_getElem? (i := 113) (by decide +kernel))
theorem wa_45 : Cond.initialized "AreaCrossings$Track" ∈ lw_tbl := List.mem_append_right _ (List.mem_of_getElem? (i := 6) (by decide +kernel))
theorem wa_46 : Cond.code yX5_init cX5_init 1 none ∈ lw_tbl := List.mem_append_right _ (List.mem_of_getElem? (i := 94) (by decide +kernel))
theorem wa_47 : Cond.instanceMethod yX5_init ∈ lw_tbl := List.mem_append_right _ (List.mem_of_getElem? (i := 93) (by decide +kernel))
theorem wa_48 : Cond.initialized "AreaCrossings" ∈ lw_tbl := List.mem_append_right _ (List.mem_of_getElem? (i := 1) (by decide +kernel))
theorem wa_49 : Cond.code yX6_init cX6_init 3 none ∈ lw_tbl := List.mem_append_right _ (List.mem_of_getElem? (i := 19) (by decide +kernel))
theorem wa_50 : Cond.instanceMethod yX6_init ∈ lw_tbl := List.mem_append_right _ (List.mem_of_getElem? (i := 18) (by decide +kernel))
theorem wa_51 : Cond.methodLink RL 21 yX6_init ∈ lw_tbl := List.mem_append_right _ (List.mem_of_getElem? (i := 17) (by decide +kernel))
theorem wa_52 : Cond.initialized "AreaCrossingsModel" ∈ lw_tbl := List.mem_append_right _ (List.mem_of_getElem? (i := 9) (by decide +kernel))
theorem wa_53 : Cond.code yX7_init cX7_init 3 none ∈ lw_tbl := List.mem_append_right _ (List.mem_of_getElem? (i := 739) (by decide +kernel))
theorem wa_54 : Cond.instanceMethod yX7_init ∈ lw_tbl := List.mem_append_right _ (List.mem_of_getElem? (i := 738) (by decide +kernel))
theorem wa_55 : Cond.methodLink RL 26 yX7_init ∈ lw_tbl := List.mem_append_right _ (List.mem_of_getElem? (i := 737) (by decide +kernel))
theorem wa_56 : Cond.initialized "AreaCrossings$Area" ∈ lw_tbl := List.mem_append_right _ (List.mem_of_getElem? (i := 3) (by decide +kernel))
theorem wa_57 : Cond.code yX0_init cX0_init 2 none ∈ lw_tbl := List.mem_append_right _ (List.mem_of_getElem? (i := 34) (by decide +kernel))
theorem wa_58 : Cond.instanceMethod yX0_init ∈ lw_tbl := List.mem_append_right _ (List.mem_of_getElem? (i := 33) (by decide +kernel))
theorem wa_59 : Cond.methodLink RX6 24 yX0_init ∈ lw_tbl := List.mem_append_right _ (List.mem_of_getElem? (i := 32) (by decide +kernel))
abbrev mX2_init : mt := (yX2_init, cX2_init, 1, { frames := 1, cells := 2, slots := 3200, locals := 20 }, none)
abbrev mX1_init : mt := (yX1_init, cX1_init, 1, { frames := 1, cells := 5, slots := 8000, locals := 20 }, none)
abbrev mX3_init : mt := (yX3_init, cX3_init, 1, { frames := 1, cells := 4, slots := 6400, locals := 20 }, none)
abbrev mX4_init : mt := (yX4_init, cX4_init, 1, { frames := 1, cells := 4, slots := 6400, locals := 20 }, none)
abbrev mX5_init : mt := (yX5_init, cX5_init, 1, { frames := 1, cells := 3, slots := 4800, locals := 20 }, none)
abbrev mX0_init : mt := (yX0_init, cX0_init, 2, { frames := 2, cells := 13, slots := 20800, locals := 40 }, none)
abbrev mX6_init : mt := (yX6_init, cX6_init, 3, { frames := 3, cells := 216, slots := 345600, locals := 61 }, none)
abbrev mX7_init : mt := (yX7_init, cX7_init, 3, { frames := 1, cells := 20, slots := 32000, locals := 20 }, none)
theorem kX6_9 : cokM RX6 9 Lib.Math.min.name Lib.Math.min.code 2 (some .int) := ⟨wa_26, wa_29, wa_27, wa_28⟩
theorem kX6_15 : cokM RX6 15 Lib.Math.max.name Lib.Math.max.code 2 (some .int) := ⟨wa_30, wa_32, wa_27, wa_31⟩
theorem cnX1_init : cokAN mX1_init 0 := ⟨wa_33, wa_34, ⟨by decide +kernel, by decide +kernel, by decide +kernel⟩, rfl, wa_35, rfl⟩
theorem cnX2_init : cokAN mX2_init 0 := ⟨wa_36, wa_37, ⟨by decide +kernel, by decide +kernel, by decide +kernel⟩, rfl, wa_38, rfl⟩
theorem cnX3_init : cokAN mX3_init 0 := ⟨wa_39, wa_40, ⟨by decide +kernel, by decide +kernel, by decide +kernel⟩, rfl, wa_41, rfl⟩
theorem cnX4_init : cokAN mX4_init 0 := ⟨wa_42, wa_43, ⟨by decide +kernel, by decide +kernel, by decide +kernel⟩, rfl, wa_44, rfl⟩
theorem cnX5_init : cokAN mX5_init 0 := ⟨wa_45, wa_46, ⟨by decide +kernel, by decide +kernel, by decide +kernel⟩, rfl, wa_47, rfl⟩
theorem kL_21 : cokA RL mX6_init 21 1 := ⟨⟨wa_51, wa_48, wa_49, by decide +kernel, by decide +kernel, by decide +kernel⟩, rfl, wa_50, rfl⟩
theorem kL_26 : cokA RL mX7_init 26 1 := ⟨⟨wa_55, wa_52, wa_53, by decide +kernel, by decide +kernel, by decide +kernel⟩, rfl, wa_54, rfl⟩
theorem kX6_24 : cokA RX6 mX0_init 24 0 := ⟨⟨wa_59, wa_56, wa_57, by decide +kernel, by decide +kernel, by decide +kernel⟩, rfl, wa_58, rfl⟩
def PX2_init (v0 : Nat) (n0 : Nat) (S : hs) (Post : hs → Prop) : Prop := (rmA mX2_init S n0 ∧ wfS S ∧ v0 < S.1 ∧ ∀ S_7, S_7 = nw S 8 12 → (is S_7 2 v0 ∧ ∀ S_9, S_9 = sR S_7 v0 0 (some (Prod.fst S)) → (rmA mX2_init S_9 n0 ∧ wfS S_9 ∧ v0 < S_9.1 ∧ ∀ S_15, S_15 = nw S_9 8 12 → (is S_15 2 v0 ∧ ∀ S_17, S_17 = sR S_15 v0 1 (some (Prod.fst S_9)) → (is S_17 2 v0 ∧ ∀ S_22, S_22 = sI S_17 v0 2 0 → ((n0 ≤ S_22.1 ∧ S_22.1 - n0 ≤ mX2_init.2.2.2.1.cells ∧ 1600 * mX2_init.2.2.2.1.cells ≤ mX2_init.2.2.2.1.slots) ∧ Post S_22))))))
def PX1_init (v0 : Nat) (n0 : Nat) (S : hs) (Post : hs → Prop) : Prop := (rmA mX1_init S n0 ∧ wfS S ∧ v0 < S.1 ∧ ∀ S_8, S_8 = nw S 8 300 → (is S_8 1 v0 ∧ ∀ S_10, S_10 = sR S_8 v0 0 (some (Prod.fst S)) → (rmA mX1_init S_10 n0 ∧ wfS S_10 ∧ v0 < S_10.1 ∧ ∀ S_17, S_17 = nw S_10 8 300 → (is S_17 1 v0 ∧ ∀ S_19, S_19 = sR S_17 v0 1 (some (Prod.fst S_10)) → (rmA mX1_init S_19 n0 ∧ wfS S_19 ∧ v0 < S_19.1 ∧ ∀ S_26, S_26 = nw S_19 10 300 → (is S_26 1 v0 ∧ ∀ S_28, S_28 = sR S_26 v0 2 (some (Prod.fst S_19)) → (rmA mX1_init S_28 n0 ∧ wfS S_28 ∧ v0 < S_28.1 ∧ ∀ S_35, S_35 = nw S_28 9 300 → (is S_35 1 v0 ∧ ∀ S_37, S_37 = sR S_35 v0 3 (some (Prod.fst S_28)) → (rmA mX1_init S_37 n0 ∧ wfS S_37 ∧ v0 < S_37.1 ∧ ∀ S_44, S_44 = nw S_37 9 300 → (is S_44 1 v0 ∧ ∀ S_46, S_46 = sR S_44 v0 4 (some (Prod.fst S_37)) → (is S_46 1 v0 ∧ ∀ S_51, S_51 = sI S_46 v0 5 0 → ((n0 ≤ S_51.1 ∧ S_51.1 - n0 ≤ mX1_init.2.2.2.1.cells ∧ 1600 * mX1_init.2.2.2.1.cells ≤ mX1_init.2.2.2.1.slots) ∧ Post S_51))))))))))))
def PX3_init (v0 : Nat) (n0 : Nat) (S : hs) (Post : hs → Prop) : Prop := (rmA mX3_init S n0 ∧ wfS S ∧ v0 < S.1 ∧ ∀ S_7, S_7 = nw S 8 40 → (is S_7 3 v0 ∧ ∀ S_9, S_9 = sR S_7 v0 0 (some (Prod.fst S)) → (rmA mX3_init S_9 n0 ∧ wfS S_9 ∧ v0 < S_9.1 ∧ ∀ S_15, S_15 = nw S_9 8 40 → (is S_15 3 v0 ∧ ∀ S_17, S_17 = sR S_15 v0 1 (some (Prod.fst S_9)) → (rmA mX3_init S_17 n0 ∧ wfS S_17 ∧ v0 < S_17.1 ∧ ∀ S_23, S_23 = nw S_17 8 40 → (is S_23 3 v0 ∧ ∀ S_25, S_25 = sR S_23 v0 2 (some (Prod.fst S_17)) → (rmA mX3_init S_25 n0 ∧ wfS S_25 ∧ v0 < S_25.1 ∧ ∀ S_31, S_31 = nw S_25 8 40 → (is S_31 3 v0 ∧ ∀ S_33, S_33 = sR S_31 v0 3 (some (Prod.fst S_25)) → (is S_33 3 v0 ∧ ∀ S_38, S_38 = sI S_33 v0 4 0 → ((n0 ≤ S_38.1 ∧ S_38.1 - n0 ≤ mX3_init.2.2.2.1.cells ∧ 1600 * mX3_init.2.2.2.1.cells ≤ mX3_init.2.2.2.1.slots) ∧ Post S_38))))))))))
def PX4_init (v0 : Nat) (n0 : Nat) (S : hs) (Post : hs → Prop) : Prop := (rmA mX4_init S n0 ∧ wfS S ∧ v0 < S.1 ∧ ∀ S_7, S_7 = nw S 9 50 → (is S_7 4 v0 ∧ ∀ S_9, S_9 = sR S_7 v0 0 (some (Prod.fst S)) → (rmA mX4_init S_9 n0 ∧ wfS S_9 ∧ v0 < S_9.1 ∧ ∀ S_15, S_15 = nw S_9 9 50 → (is S_15 4 v0 ∧ ∀ S_17, S_17 = sR S_15 v0 1 (some (Prod.fst S_9)) → (is S_17 4 v0 ∧ ∀ S_22, S_22 = sI S_17 v0 2 0 → (rmA mX4_init S_22 n0 ∧ wfS S_22 ∧ v0 < S_22.1 ∧ ∀ S_28, S_28 = nw S_22 8 50 → (is S_28 4 v0 ∧ ∀ S_30, S_30 = sR S_28 v0 3 (some (Prod.fst S_22)) → (rmA mX4_init S_30 n0 ∧ wfS S_30 ∧ v0 < S_30.1 ∧ ∀ S_36, S_36 = nw S_30 8 50 → (is S_36 4 v0 ∧ ∀ S_38, S_38 = sR S_36 v0 4 (some (Prod.fst S_30)) → (is S_38 4 v0 ∧ ∀ S_43, S_43 = sI S_38 v0 5 0 → (is S_43 4 v0 ∧ ∀ S_48, S_48 = sJ S_43 v0 6 0 → (is S_48 4 v0 ∧ ∀ S_53, S_53 = sJ S_48 v0 7 0 → (is S_53 4 v0 ∧ ∀ S_58, S_58 = sJ S_53 v0 8 0 → (is S_58 4 v0 ∧ ∀ S_63, S_63 = sJ S_58 v0 9 0 → ((n0 ≤ S_63.1 ∧ S_63.1 - n0 ≤ mX4_init.2.2.2.1.cells ∧ 1600 * mX4_init.2.2.2.1.cells ≤ mX4_init.2.2.2.1.slots) ∧ Post S_63)))))))))))))))
def PX5_init (v0 : Nat) (n0 : Nat) (S : hs) (Post : hs → Prop) : Prop := (rmA mX5_init S n0 ∧ wfS S ∧ v0 < S.1 ∧ ∀ S_7, S_7 = nw S 9 30 → (is S_7 5 v0 ∧ ∀ S_9, S_9 = sR S_7 v0 0 (some (Prod.fst S)) → (rmA mX5_init S_9 n0 ∧ wfS S_9 ∧ v0 < S_9.1 ∧ ∀ S_15, S_15 = nw S_9 8 30 → (is S_15 5 v0 ∧ ∀ S_17, S_17 = sR S_15 v0 1 (some (Prod.fst S_9)) → (rmA mX5_init S_17 n0 ∧ wfS S_17 ∧ v0 < S_17.1 ∧ ∀ S_23, S_23 = nw S_17 8 30 → (is S_23 5 v0 ∧ ∀ S_25, S_25 = sR S_23 v0 2 (some (Prod.fst S_17)) → (is S_25 5 v0 ∧ ∀ S_30, S_30 = sI S_25 v0 3 0 → ((n0 ≤ S_30.1 ∧ S_30.1 - n0 ≤ mX5_init.2.2.2.1.cells ∧ 1600 * mX5_init.2.2.2.1.cells ≤ mX5_init.2.2.2.1.slots) ∧ Post S_30))))))))
def PX0_init_29 (Post : hs → Prop) (n0 : Nat)  : Nat → Nat → Int32 → hs → Prop
  | 0, _, _, _ => False
  | n + 1, v0, v1, S => (fun (K29 : Nat → Int32 → hs → Prop) => (((4 : Int32) ≤ v1 → ((n0 ≤ S.1 ∧ S.1 - n0 ≤ mX0_init.2.2.2.1.cells ∧ 1600 * mX0_init.2.2.2.1.cells ≤ mX0_init.2.2.2.1.slots) ∧ Post S)) ∧ (¬ (4 : Int32) ≤ v1 → (is S 0 v0 ∧ ∃ r_35, hr S v0 0 = some r_35 ∧ (rmA mX0_init S n0 ∧ wfS S ∧ v0 < S.1 ∧ r_35 < S.1 ∧ ∀ S_39, S_39 = nw S 2 0 → ((n0 ≤ S_39.1 ∧ S_39.1 - n0 + 2 ≤ mX0_init.2.2.2.1.cells ∧ 1600 * mX0_init.2.2.2.1.cells ≤ mX0_init.2.2.2.1.slots) ∧ v0 < S_39.1 ∧ (Prod.fst S) < S_39.1 ∧ r_35 < S_39.1 ∧ PX2_init (Prod.fst S) S_39.1 S_39 (fun S_43 => S_43.1 = S_39.1 + 2 ∧ (ix S_43 12 r_35 v1 ∧ is S_43 2 (Prod.fst S) ∧ ∀ S_46, S_46 = sR S_43 r_35 (Int32.toNatClampNeg v1) (some (Prod.fst S)) → ∀ v1_47 : Int32, v1_47 = v1 + 1 → (K29 v0 v1_47 S_46))))))))) (PX0_init_29 Post n0  n)
def PX0_init (v0 : Nat) (n0 : Nat) (S : hs) (Post : hs → Prop) : Prop := (rmA mX0_init S n0 ∧ wfS S ∧ v0 < S.1 ∧ ∀ S_6, S_6 = nw S 12 4 → (is S_6 0 v0 ∧ ∀ S_9, S_9 = sR S_6 v0 0 (some (Prod.fst S)) → (is S_9 0 v0 ∧ ∀ S_14, S_14 = sI S_9 v0 1 0 → (is S_14 0 v0 ∧ ∀ S_19, S_19 = sI S_14 v0 2 1 → (is S_19 0 v0 ∧ ∀ S_24, S_24 = sJ S_19 v0 3 0 → (∃ n, PX0_init_29 Post n0  n v0 0 S_24))))))
def PX6_init_73 (Post : hs → Prop) (n0 : Nat)  : Nat → Nat → Int32 → hs → Prop
  | 0, _, _, _ => False
  | n + 1, v0, v2, S => (fun (K73 : Nat → Int32 → hs → Prop) => (is S 6 v0 ∧ ∃ r_75, hr S v0 2 = some r_75 ∧ (is S 13 r_75 ∧ (((nI (hz S r_75)) ≤ v2 → (is S 6 v0 ∧ ∀ S_103, S_103 = sI S v0 3 0 → (rmA mX6_init S_103 n0 ∧ wfS S_103 ∧ v0 < S_103.1 ∧ ∀ S_107, S_107 = nw S_103 4 0 → ((n0 ≤ S_107.1 ∧ S_107.1 - n0 + 4 ≤ mX6_init.2.2.2.1.cells ∧ 1600 * mX6_init.2.2.2.1.cells ≤ mX6_init.2.2.2.1.slots) ∧ v0 < S_107.1 ∧ (Prod.fst S_103) < S_107.1 ∧ PX4_init (Prod.fst S_103) S_107.1 S_107 (fun S_111 => S_111.1 = S_107.1 + 4 ∧ (is S_111 6 v0 ∧ ∀ S_114, S_114 = sR S_111 v0 4 (some (Prod.fst S_103)) → (rmA mX6_init S_114 n0 ∧ wfS S_114 ∧ v0 < S_114.1 ∧ ∀ S_118, S_118 = nw S_114 1 0 → ((n0 ≤ S_118.1 ∧ S_118.1 - n0 + 5 ≤ mX6_init.2.2.2.1.cells ∧ 1600 * mX6_init.2.2.2.1.cells ≤ mX6_init.2.2.2.1.slots) ∧ v0 < S_118.1 ∧ (Prod.fst S_114) < S_118.1 ∧ PX1_init (Prod.fst S_114) S_118.1 S_118 (fun S_122 => S_122.1 = S_118.1 + 5 ∧ (is S_122 6 v0 ∧ ∀ S_125, S_125 = sR S_122 v0 5 (some (Prod.fst S_114)) → (rmA mX6_init S_125 n0 ∧ wfS S_125 ∧ v0 < S_125.1 ∧ ∀ S_129, S_129 = nw S_125 1 0 → ((n0 ≤ S_129.1 ∧ S_129.1 - n0 + 5 ≤ mX6_init.2.2.2.1.cells ∧ 1600 * mX6_init.2.2.2.1.cells ≤ mX6_init.2.2.2.1.slots) ∧ v0 < S_129.1 ∧ (Prod.fst S_125) < S_129.1 ∧ PX1_init (Prod.fst S_125) S_129.1 S_129 (fun S_133 => S_133.1 = S_129.1 + 5 ∧ (is S_133 6 v0 ∧ ∀ S_136, S_136 = sR S_133 v0 6 (some (Prod.fst S_125)) → ((n0 ≤ S_136.1 ∧ S_136.1 - n0 ≤ mX6_init.2.2.2.1.cells ∧ 1600 * mX6_init.2.2.2.1.cells ≤ mX6_init.2.2.2.1.slots) ∧ Post S_136))))))))))))))) ∧ (¬ (nI (hz S r_75)) ≤ v2 → (is S 6 v0 ∧ ∃ r_83, hr S v0 2 = some r_83 ∧ (rmA mX6_init S n0 ∧ wfS S ∧ v0 < S.1 ∧ r_83 < S.1 ∧ ∀ S_87, S_87 = nw S 5 0 → ((n0 ≤ S_87.1 ∧ S_87.1 - n0 + 3 ≤ mX6_init.2.2.2.1.cells ∧ 1600 * mX6_init.2.2.2.1.cells ≤ mX6_init.2.2.2.1.slots) ∧ v0 < S_87.1 ∧ (Prod.fst S) < S_87.1 ∧ r_83 < S_87.1 ∧ PX5_init (Prod.fst S) S_87.1 S_87 (fun S_91 => S_91.1 = S_87.1 + 3 ∧ (ix S_91 13 r_83 v2 ∧ is S_91 5 (Prod.fst S) ∧ ∀ S_94, S_94 = sR S_91 r_83 (Int32.toNatClampNeg v2) (some (Prod.fst S)) → ∀ v2_95 : Int32, v2_95 = v2 + 1 → (K73 v0 v2_95 S_94))))))))))) (PX6_init_73 Post n0  n)
def PX6_init_23 (Post : hs → Prop) (n0 : Nat)  : Nat → Nat → Int32 → hs → Prop
  | 0, _, _, _ => False
  | n + 1, v0, v2, S => (fun (K23 : Nat → Int32 → hs → Prop) => (is S 6 v0 ∧ ∃ r_25, hr S v0 0 = some r_25 ∧ (is S 11 r_25 ∧ (((nI (hz S r_25)) ≤ v2 → (rmA mX6_init S n0 ∧ wfS S ∧ v0 < S.1 ∧ ∀ S_52, S_52 = nw S 3 0 → ((n0 ≤ S_52.1 ∧ S_52.1 - n0 + 4 ≤ mX6_init.2.2.2.1.cells ∧ 1600 * mX6_init.2.2.2.1.cells ≤ mX6_init.2.2.2.1.slots) ∧ v0 < S_52.1 ∧ (Prod.fst S) < S_52.1 ∧ PX3_init (Prod.fst S) S_52.1 S_52 (fun S_56 => S_56.1 = S_52.1 + 4 ∧ (is S_56 6 v0 ∧ ∀ S_59, S_59 = sR S_56 v0 1 (some (Prod.fst S)) → (rmA mX6_init S_59 n0 ∧ wfS S_59 ∧ v0 < S_59.1 ∧ ∀ S_65, S_65 = nw S_59 13 6 → (is S_65 6 v0 ∧ ∀ S_68, S_68 = sR S_65 v0 2 (some (Prod.fst S_59)) → (∃ n, PX6_init_73 Post n0  n v0 0 S_68)))))))) ∧ (¬ (nI (hz S r_25)) ≤ v2 → (is S 6 v0 ∧ ∃ r_33, hr S v0 0 = some r_33 ∧ (rmA mX6_init S n0 ∧ wfS S ∧ v0 < S.1 ∧ r_33 < S.1 ∧ ∀ S_37, S_37 = nw S 0 0 → ((n0 ≤ S_37.1 ∧ S_37.1 - n0 + 13 ≤ mX6_init.2.2.2.1.cells ∧ 1600 * mX6_init.2.2.2.1.cells ≤ mX6_init.2.2.2.1.slots) ∧ v0 < S_37.1 ∧ (Prod.fst S) < S_37.1 ∧ r_33 < S_37.1 ∧ PX0_init (Prod.fst S) S_37.1 S_37 (fun S_41 => S_41.1 = S_37.1 + 13 ∧ (ix S_41 11 r_33 v2 ∧ is S_41 0 (Prod.fst S) ∧ ∀ S_44, S_44 = sR S_41 r_33 (Int32.toNatClampNeg v2) (some (Prod.fst S)) → ∀ v2_45 : Int32, v2_45 = v2 + 1 → (K23 v0 v2_45 S_44))))))))))) (PX6_init_23 Post n0  n)
def PX6_init (v0 : Nat) (v1 : Int32) (n0 : Nat) (S : hs) (Post : hs → Prop) : Prop := ((S.1 - n0 ≤ mX6_init.2.2.2.1.cells ∧ 1600 * (S.1 - n0) ≤ mX6_init.2.2.2.1.slots) ∧ ∀ u_9 : Int32, u_9 = (if v1 < 12 then v1 else 12) → ((S.1 - n0 ≤ mX6_init.2.2.2.1.cells ∧ 1600 * (S.1 - n0) ≤ mX6_init.2.2.2.1.slots) ∧ ∀ u_12 : Int32, u_12 = (if 1 < u_9 then u_9 else 1) → (rmA mX6_init S n0 ∧ wfS S ∧ v0 < S.1 ∧ (¬ u_12 < 0 ∧ (Int32.toNatClampNeg u_12) ≤ 1600) ∧ ∀ S_15, S_15 = nw S 11 (Int32.toNatClampNeg u_12) → (is S_15 6 v0 ∧ ∀ S_18, S_18 = sR S_15 v0 0 (some (Prod.fst S)) → (∃ n, PX6_init_23 Post n0  n v0 0 S_18)))))
def PX7_init_202 (Post : hs → Prop) (n0 : Nat)  : Nat → Nat → Int32 → hs → Prop
  | 0, _, _, _ => False
  | n + 1, v0, v2, S => (fun (K202 : Nat → Int32 → hs → Prop) => (((12 : Int32) ≤ v2 → ((n0 ≤ S.1 ∧ S.1 - n0 ≤ mX7_init.2.2.2.1.cells ∧ 1600 * mX7_init.2.2.2.1.cells ≤ mX7_init.2.2.2.1.slots) ∧ Post S)) ∧ (¬ (12 : Int32) ≤ v2 → (is S 7 v0 ∧ ∃ r_209, hr S v0 6 = some r_209 ∧ (ix S 10 r_209 v2 ∧ ∀ S_214, S_214 = sI S r_209 (Int32.toNatClampNeg v2) 1 → ∀ v2_215 : Int32, v2_215 = v2 + 1 → (K202 v0 v2_215 S_214)))))) (PX7_init_202 Post n0  n)
def PX7_init_197 (Post : hs → Prop) (n0 : Nat)  (v0 : Nat) (s0 : Nat) (s1 : Int32) (S : hs) : Prop := (is S 7 s0 ∧ ∀ S_197, S_197 = sI S s0 1 s1 → (∃ n, PX7_init_202 Post n0  n v0 0 S_197))
def PX7_init (v0 : Nat) (v1 : Int32) (n0 : Nat) (S : hs) (Post : hs → Prop) : Prop := (rmA mX7_init S n0 ∧ wfS S ∧ v0 < S.1 ∧ ∀ S_8, S_8 = nw S 9 576 → (is S_8 7 v0 ∧ ∀ S_10, S_10 = sR S_8 v0 2 (some (Prod.fst S)) → (rmA mX7_init S_10 n0 ∧ wfS S_10 ∧ v0 < S_10.1 ∧ ∀ S_17, S_17 = nw S_10 9 576 → (is S_17 7 v0 ∧ ∀ S_19, S_19 = sR S_17 v0 3 (some (Prod.fst S_10)) → (rmA mX7_init S_19 n0 ∧ wfS S_19 ∧ v0 < S_19.1 ∧ ∀ S_25, S_25 = nw S_19 8 48 → (is S_25 7 v0 ∧ ∀ S_27, S_27 = sR S_25 v0 4 (some (Prod.fst S_19)) → (rmA mX7_init S_27 n0 ∧ wfS S_27 ∧ v0 < S_27.1 ∧ ∀ S_33, S_33 = nw S_27 8 12 → (is S_33 7 v0 ∧ ∀ S_35, S_35 = sR S_33 v0 5 (some (Prod.fst S_27)) → (rmA mX7_init S_35 n0 ∧ wfS S_35 ∧ v0 < S_35.1 ∧ ∀ S_41, S_41 = nw S_35 10 12 → (is S_41 7 v0 ∧ ∀ S_43, S_43 = sR S_41 v0 6 (some (Prod.fst S_35)) → (rmA mX7_init S_43 n0 ∧ wfS S_43 ∧ v0 < S_43.1 ∧ ∀ S_49, S_49 = nw S_43 9 12 → (is S_49 7 v0 ∧ ∀ S_51, S_51 = sR S_49 v0 7 (some (Prod.fst S_43)) → (rmA mX7_init S_51 n0 ∧ wfS S_51 ∧ v0 < S_51.1 ∧ ∀ S_57, S_57 = nw S_51 8 40 → (is S_57 7 v0 ∧ ∀ S_59, S_59 = sR S_57 v0 9 (some (Prod.fst S_51)) → (rmA mX7_init S_59 n0 ∧ wfS S_59 ∧ v0 < S_59.1 ∧ ∀ S_65, S_65 = nw S_59 8 40 → (is S_65 7 v0 ∧ ∀ S_67, S_67 = sR S_65 v0 10 (some (Prod.fst S_59)) → (rmA mX7_init S_67 n0 ∧ wfS S_67 ∧ v0 < S_67.1 ∧ ∀ S_73, S_73 = nw S_67 8 40 → (is S_73 7 v0 ∧ ∀ S_75, S_75 = sR S_73 v0 11 (some (Prod.fst S_67)) → (rmA mX7_init S_75 n0 ∧ wfS S_75 ∧ v0 < S_75.1 ∧ ∀ S_81, S_81 = nw S_75 8 40 → (is S_81 7 v0 ∧ ∀ S_83, S_83 = sR S_81 v0 12 (some (Prod.fst S_75)) → (rmA mX7_init S_83 n0 ∧ wfS S_83 ∧ v0 < S_83.1 ∧ ∀ S_89, S_89 = nw S_83 8 6 → (is S_89 7 v0 ∧ ∀ S_91, S_91 = sR S_89 v0 14 (some (Prod.fst S_83)) → (rmA mX7_init S_91 n0 ∧ wfS S_91 ∧ v0 < S_91.1 ∧ ∀ S_98, S_98 = nw S_91 9 180 → (is S_98 7 v0 ∧ ∀ S_100, S_100 = sR S_98 v0 15 (some (Prod.fst S_91)) → (rmA mX7_init S_100 n0 ∧ wfS S_100 ∧ v0 < S_100.1 ∧ ∀ S_107, S_107 = nw S_100 9 180 → (is S_107 7 v0 ∧ ∀ S_109, S_109 = sR S_107 v0 16 (some (Prod.fst S_100)) → (rmA mX7_init S_109 n0 ∧ wfS S_109 ∧ v0 < S_109.1 ∧ ∀ S_116, S_116 = nw S_109 9 180 → (is S_116 7 v0 ∧ ∀ S_118, S_118 = sR S_116 v0 17 (some (Prod.fst S_109)) → (rmA mX7_init S_118 n0 ∧ wfS S_118 ∧ v0 < S_118.1 ∧ ∀ S_125, S_125 = nw S_118 9 1500 → (is S_125 7 v0 ∧ ∀ S_127, S_127 = sR S_125 v0 19 (some (Prod.fst S_118)) → (rmA mX7_init S_127 n0 ∧ wfS S_127 ∧ v0 < S_127.1 ∧ ∀ S_134, S_134 = nw S_127 9 1500 → (is S_134 7 v0 ∧ ∀ S_136, S_136 = sR S_134 v0 21 (some (Prod.fst S_127)) → (rmA mX7_init S_136 n0 ∧ wfS S_136 ∧ v0 < S_136.1 ∧ ∀ S_143, S_143 = nw S_136 9 128 → (is S_143 7 v0 ∧ ∀ S_145, S_145 = sR S_143 v0 23 (some (Prod.fst S_136)) → (rmA mX7_init S_145 n0 ∧ wfS S_145 ∧ v0 < S_145.1 ∧ ∀ S_152, S_152 = nw S_145 9 128 → (is S_152 7 v0 ∧ ∀ S_154, S_154 = sR S_152 v0 24 (some (Prod.fst S_145)) → (rmA mX7_init S_154 n0 ∧ wfS S_154 ∧ v0 < S_154.1 ∧ ∀ S_161, S_161 = nw S_154 8 128 → (is S_161 7 v0 ∧ ∀ S_163, S_163 = sR S_161 v0 26 (some (Prod.fst S_154)) → (rmA mX7_init S_163 n0 ∧ wfS S_163 ∧ v0 < S_163.1 ∧ ∀ S_170, S_170 = nw S_163 8 128 → (is S_170 7 v0 ∧ ∀ S_172, S_172 = sR S_170 v0 27 (some (Prod.fst S_163)) → (((1 : Int32) ≤ v1 → ((v1 ≤ (12 : Int32) → (PX7_init_197 Post n0  v0 v0 v1 S_172)) ∧ (¬ v1 ≤ (12 : Int32) → (PX7_init_197 Post n0  v0 v0 12 S_172)))) ∧ (¬ (1 : Int32) ≤ v1 → (PX7_init_197 Post n0  v0 v0 1 S_172)))))))))))))))))))))))))))))))))))))))))))
set_option maxRecDepth 100000 in
set_option maxHeartbeats 4000000 in
theorem xX2_init {E : en} {n0 : Nat} {Post : hs → Prop} (hX : xtra E.2.1.2.2.1) (v0 : Nat) (S : hs) (ad : Nat → Nat) (hQ : isA E mX2_init n0 ad Post) (h : PX2_init v0 n0 S Post) : XA E mX2_init n0 ad S 0 [(0, aA v0)] [] := by
  unfold PX2_init at h
  refine x_aload_n dX2_init_0 rfl ?_
  refine x_objI wa_0 wOI wOC ⟨by decide, by decide⟩ dX2_init_1 (Nat.le_of_ble_eq_true rfl) ?_
  refine x_aload_n dX2_init_4 rfl ?_
  refine x_bipush (v := 12) dX2_init_5 (by decide) ?_
  refine x_lv (lv' := [(0, aA v0)]) ⟨rfl, trivial⟩ ?_
  obtain ⟨e1, e2, g0, h⟩ := h
  refine x_newI (N := 12) (by decide) ⟨by decide, by decide⟩ dX2_init_7 e1 e2 ⟨g0, trivial⟩ ⟨g0, trivial⟩ (fun q => ?_)
  replace hQ := hQ.up (q := q) e1.1
  generalize va_up ad _ q = ad at hQ ⊢
  refine x_nSA (n0 := n0) (fun S_7 hS_7 => ?_)
  replace h := h S_7 hS_7
  obtain ⟨h1, h⟩ := h
  refine x_p2_0 rfl rfl dX2_init_9 h1 (x_nSA (n0 := n0) (fun S_9 hS_9 => ?_))
  replace h := h S_9 hS_9
  refine x_aload_n dX2_init_12 rfl ?_
  refine x_bipush (v := 12) dX2_init_13 (by decide) ?_
  refine x_lv (lv' := [(0, aA v0)]) ⟨rfl, trivial⟩ ?_
  obtain ⟨e1, e2, g0, h⟩ := h
  refine x_newI (N := 12) (by decide) ⟨by decide, by decide⟩ dX2_init_15 e1 e2 ⟨g0, trivial⟩ ⟨g0, trivial⟩ (fun q => ?_)
  replace hQ := hQ.up (q := q) e1.1
  generalize va_up ad _ q = ad at hQ ⊢
  refine x_nSA (n0 := n0) (fun S_15 hS_15 => ?_)
  replace h := h S_15 hS_15
  obtain ⟨h1, h⟩ := h
  refine x_p2_1 rfl rfl dX2_init_17 h1 (x_nSA (n0 := n0) (fun S_17 hS_17 => ?_))
  replace h := h S_17 hS_17
  refine x_aload_n dX2_init_20 rfl ?_
  refine x_iconst (v := 0) dX2_init_21 (by decide) ?_
  obtain ⟨h1, h⟩ := h
  refine x_p2_2 rfl dX2_init_22 h1 (x_nSA (n0 := n0) (fun S_22 hS_22 => ?_))
  replace h := h S_22 hS_22
  exact x_vretA hQ rfl dX2_init_25 h.1 h.2
theorem ctX2_init {G : Launch × va_G × (Nat → ClassId) × Nat} {v0 : Nat} {S : hs} {Post : hs → Prop} (h : PX2_init v0 S.1 S Post) : ctA G mX2_init [aA v0] S Post := by
  refine ctA.of (by decide) (Nat.le_of_ble_eq_true rfl) (fun E ad hG hQ hX => ?_)
  subst hG
  exact xX2_init hX _ S ad hQ h
set_option maxRecDepth 100000 in
set_option maxHeartbeats 4000000 in
theorem xX1_init {E : en} {n0 : Nat} {Post : hs → Prop} (hX : xtra E.2.1.2.2.1) (v0 : Nat) (S : hs) (ad : Nat → Nat) (hQ : isA E mX1_init n0 ad Post) (h : PX1_init v0 n0 S Post) : XA E mX1_init n0 ad S 0 [(0, aA v0)] [] := by
  unfold PX1_init at h
  refine x_aload_n dX1_init_0 rfl ?_
  refine x_objI wa_1 wOI wOC ⟨by decide, by decide⟩ dX1_init_1 (Nat.le_of_ble_eq_true rfl) ?_
  refine x_aload_n dX1_init_4 rfl ?_
  refine x_sipush (v := 300) dX1_init_5 (by decide) ?_
  refine x_lv (lv' := [(0, aA v0)]) ⟨rfl, trivial⟩ ?_
  obtain ⟨e1, e2, g0, h⟩ := h
  refine x_newI (N := 300) (by decide) ⟨by decide, by decide⟩ dX1_init_8 e1 e2 ⟨g0, trivial⟩ ⟨g0, trivial⟩ (fun q => ?_)
  replace hQ := hQ.up (q := q) e1.1
  generalize va_up ad _ q = ad at hQ ⊢
  refine x_nSA (n0 := n0) (fun S_8 hS_8 => ?_)
  replace h := h S_8 hS_8
  obtain ⟨h1, h⟩ := h
  refine x_p1_0 rfl rfl dX1_init_10 h1 (x_nSA (n0 := n0) (fun S_10 hS_10 => ?_))
  replace h := h S_10 hS_10
  refine x_aload_n dX1_init_13 rfl ?_
  refine x_sipush (v := 300) dX1_init_14 (by decide) ?_
  refine x_lv (lv' := [(0, aA v0)]) ⟨rfl, trivial⟩ ?_
  obtain ⟨e1, e2, g0, h⟩ := h
  refine x_newI (N := 300) (by decide) ⟨by decide, by decide⟩ dX1_init_17 e1 e2 ⟨g0, trivial⟩ ⟨g0, trivial⟩ (fun q => ?_)
  replace hQ := hQ.up (q := q) e1.1
  generalize va_up ad _ q = ad at hQ ⊢
  refine x_nSA (n0 := n0) (fun S_17 hS_17 => ?_)
  replace h := h S_17 hS_17
  obtain ⟨h1, h⟩ := h
  refine x_p1_1 rfl rfl dX1_init_19 h1 (x_nSA (n0 := n0) (fun S_19 hS_19 => ?_))
  replace h := h S_19 hS_19
  refine x_aload_n dX1_init_22 rfl ?_
  refine x_sipush (v := 300) dX1_init_23 (by decide) ?_
  refine x_lv (lv' := [(0, aA v0)]) ⟨rfl, trivial⟩ ?_
  obtain ⟨e1, e2, g0, h⟩ := h
  refine x_newZ (N := 300) (by decide) ⟨by decide, by decide⟩ dX1_init_26 e1 e2 ⟨g0, trivial⟩ ⟨g0, trivial⟩ (fun q => ?_)
  replace hQ := hQ.up (q := q) e1.1
  generalize va_up ad _ q = ad at hQ ⊢
  refine x_nSA (n0 := n0) (fun S_26 hS_26 => ?_)
  replace h := h S_26 hS_26
  obtain ⟨h1, h⟩ := h
  refine x_p1_2 rfl rfl dX1_init_28 h1 (x_nSA (n0 := n0) (fun S_28 hS_28 => ?_))
  replace h := h S_28 hS_28
  refine x_aload_n dX1_init_31 rfl ?_
  refine x_sipush (v := 300) dX1_init_32 (by decide) ?_
  refine x_lv (lv' := [(0, aA v0)]) ⟨rfl, trivial⟩ ?_
  obtain ⟨e1, e2, g0, h⟩ := h
  refine x_newJ (N := 300) (by decide) ⟨by decide, by decide⟩ dX1_init_35 e1 e2 ⟨g0, trivial⟩ ⟨g0, trivial⟩ (fun q => ?_)
  replace hQ := hQ.up (q := q) e1.1
  generalize va_up ad _ q = ad at hQ ⊢
  refine x_nSA (n0 := n0) (fun S_35 hS_35 => ?_)
  replace h := h S_35 hS_35
  obtain ⟨h1, h⟩ := h
  refine x_p1_3 rfl rfl dX1_init_37 h1 (x_nSA (n0 := n0) (fun S_37 hS_37 => ?_))
  replace h := h S_37 hS_37
  refine x_aload_n dX1_init_40 rfl ?_
  refine x_sipush (v := 300) dX1_init_41 (by decide) ?_
  refine x_lv (lv' := [(0, aA v0)]) ⟨rfl, trivial⟩ ?_
  obtain ⟨e1, e2, g0, h⟩ := h
  refine x_newJ (N := 300) (by decide) ⟨by decide, by decide⟩ dX1_init_44 e1 e2 ⟨g0, trivial⟩ ⟨g0, trivial⟩ (fun q => ?_)
  replace hQ := hQ.up (q := q) e1.1
  generalize va_up ad _ q = ad at hQ ⊢
  refine x_nSA (n0 := n0) (fun S_44 hS_44 => ?_)
  replace h := h S_44 hS_44
  obtain ⟨h1, h⟩ := h
  refine x_p1_4 rfl rfl dX1_init_46 h1 (x_nSA (n0 := n0) (fun S_46 hS_46 => ?_))
  replace h := h S_46 hS_46
  refine x_aload_n dX1_init_49 rfl ?_
  refine x_iconst (v := 0) dX1_init_50 (by decide) ?_
  obtain ⟨h1, h⟩ := h
  refine x_p1_5 rfl dX1_init_51 h1 (x_nSA (n0 := n0) (fun S_51 hS_51 => ?_))
  replace h := h S_51 hS_51
  exact x_vretA hQ rfl dX1_init_54 h.1 h.2
theorem ctX1_init {G : Launch × va_G × (Nat → ClassId) × Nat} {v0 : Nat} {S : hs} {Post : hs → Prop} (h : PX1_init v0 S.1 S Post) : ctA G mX1_init [aA v0] S Post := by
  refine ctA.of (by decide) (Nat.le_of_ble_eq_true rfl) (fun E ad hG hQ hX => ?_)
  subst hG
  exact xX1_init hX _ S ad hQ h
set_option maxRecDepth 100000 in
set_option maxHeartbeats 4000000 in
theorem xX3_init {E : en} {n0 : Nat} {Post : hs → Prop} (hX : xtra E.2.1.2.2.1) (v0 : Nat) (S : hs) (ad : Nat → Nat) (hQ : isA E mX3_init n0 ad Post) (h : PX3_init v0 n0 S Post) : XA E mX3_init n0 ad S 0 [(0, aA v0)] [] := by
  unfold PX3_init at h
  refine x_aload_n dX3_init_0 rfl ?_
  refine x_objI wa_2 wOI wOC ⟨by decide, by decide⟩ dX3_init_1 (Nat.le_of_ble_eq_true rfl) ?_
  refine x_aload_n dX3_init_4 rfl ?_
  refine x_bipush (v := 40) dX3_init_5 (by decide) ?_
  refine x_lv (lv' := [(0, aA v0)]) ⟨rfl, trivial⟩ ?_
  obtain ⟨e1, e2, g0, h⟩ := h
  refine x_newI (N := 40) (by decide) ⟨by decide, by decide⟩ dX3_init_7 e1 e2 ⟨g0, trivial⟩ ⟨g0, trivial⟩ (fun q => ?_)
  replace hQ := hQ.up (q := q) e1.1
  generalize va_up ad _ q = ad at hQ ⊢
  refine x_nSA (n0 := n0) (fun S_7 hS_7 => ?_)
  replace h := h S_7 hS_7
  obtain ⟨h1, h⟩ := h
  refine x_p3_0 rfl rfl dX3_init_9 h1 (x_nSA (n0 := n0) (fun S_9 hS_9 => ?_))
  replace h := h S_9 hS_9
  refine x_aload_n dX3_init_12 rfl ?_
  refine x_bipush (v := 40) dX3_init_13 (by decide) ?_
  refine x_lv (lv' := [(0, aA v0)]) ⟨rfl, trivial⟩ ?_
  obtain ⟨e1, e2, g0, h⟩ := h
  refine x_newI (N := 40) (by decide) ⟨by decide, by decide⟩ dX3_init_15 e1 e2 ⟨g0, trivial⟩ ⟨g0, trivial⟩ (fun q => ?_)
  replace hQ := hQ.up (q := q) e1.1
  generalize va_up ad _ q = ad at hQ ⊢
  refine x_nSA (n0 := n0) (fun S_15 hS_15 => ?_)
  replace h := h S_15 hS_15
  obtain ⟨h1, h⟩ := h
  refine x_p3_1 rfl rfl dX3_init_17 h1 (x_nSA (n0 := n0) (fun S_17 hS_17 => ?_))
  replace h := h S_17 hS_17
  refine x_aload_n dX3_init_20 rfl ?_
  refine x_bipush (v := 40) dX3_init_21 (by decide) ?_
  refine x_lv (lv' := [(0, aA v0)]) ⟨rfl, trivial⟩ ?_
  obtain ⟨e1, e2, g0, h⟩ := h
  refine x_newI (N := 40) (by decide) ⟨by decide, by decide⟩ dX3_init_23 e1 e2 ⟨g0, trivial⟩ ⟨g0, trivial⟩ (fun q => ?_)
  replace hQ := hQ.up (q := q) e1.1
  generalize va_up ad _ q = ad at hQ ⊢
  refine x_nSA (n0 := n0) (fun S_23 hS_23 => ?_)
  replace h := h S_23 hS_23
  obtain ⟨h1, h⟩ := h
  refine x_p3_2 rfl rfl dX3_init_25 h1 (x_nSA (n0 := n0) (fun S_25 hS_25 => ?_))
  replace h := h S_25 hS_25
  refine x_aload_n dX3_init_28 rfl ?_
  refine x_bipush (v := 40) dX3_init_29 (by decide) ?_
  refine x_lv (lv' := [(0, aA v0)]) ⟨rfl, trivial⟩ ?_
  obtain ⟨e1, e2, g0, h⟩ := h
  refine x_newI (N := 40) (by decide) ⟨by decide, by decide⟩ dX3_init_31 e1 e2 ⟨g0, trivial⟩ ⟨g0, trivial⟩ (fun q => ?_)
  replace hQ := hQ.up (q := q) e1.1
  generalize va_up ad _ q = ad at hQ ⊢
  refine x_nSA (n0 := n0) (fun S_31 hS_31 => ?_)
  replace h := h S_31 hS_31
  obtain ⟨h1, h⟩ := h
  refine x_p3_3 rfl rfl dX3_init_33 h1 (x_nSA (n0 := n0) (fun S_33 hS_33 => ?_))
  replace h := h S_33 hS_33
  refine x_aload_n dX3_init_36 rfl ?_
  refine x_iconst (v := 0) dX3_init_37 (by decide) ?_
  obtain ⟨h1, h⟩ := h
  refine x_p3_4 rfl dX3_init_38 h1 (x_nSA (n0 := n0) (fun S_38 hS_38 => ?_))
  replace h := h S_38 hS_38
  exact x_vretA hQ rfl dX3_init_41 h.1 h.2
theorem ctX3_init {G : Launch × va_G × (Nat → ClassId) × Nat} {v0 : Nat} {S : hs} {Post : hs → Prop} (h : PX3_init v0 S.1 S Post) : ctA G mX3_init [aA v0] S Post := by
  refine ctA.of (by decide) (Nat.le_of_ble_eq_true rfl) (fun E ad hG hQ hX => ?_)
  subst hG
  exact xX3_init hX _ S ad hQ h
set_option maxRecDepth 100000 in
set_option maxHeartbeats 4000000 in
theorem xX4_init {E : en} {n0 : Nat} {Post : hs → Prop} (hX : xtra E.2.1.2.2.1) (v0 : Nat) (S : hs) (ad : Nat → Nat) (hQ : isA E mX4_init n0 ad Post) (h : PX4_init v0 n0 S Post) : XA E mX4_init n0 ad S 0 [(0, aA v0)] [] := by
  unfold PX4_init at h
  refine x_aload_n dX4_init_0 rfl ?_
  refine x_objI wa_3 wOI wOC ⟨by decide, by decide⟩ dX4_init_1 (Nat.le_of_ble_eq_true rfl) ?_
  refine x_aload_n dX4_init_4 rfl ?_
  refine x_bipush (v := 50) dX4_init_5 (by decide) ?_
  refine x_lv (lv' := [(0, aA v0)]) ⟨rfl, trivial⟩ ?_
  obtain ⟨e1, e2, g0, h⟩ := h
  refine x_newJ (N := 50) (by decide) ⟨by decide, by decide⟩ dX4_init_7 e1 e2 ⟨g0, trivial⟩ ⟨g0, trivial⟩ (fun q => ?_)
  replace hQ := hQ.up (q := q) e1.1
  generalize va_up ad _ q = ad at hQ ⊢
  refine x_nSA (n0 := n0) (fun S_7 hS_7 => ?_)
  replace h := h S_7 hS_7
  obtain ⟨h1, h⟩ := h
  refine x_p4_0 rfl rfl dX4_init_9 h1 (x_nSA (n0 := n0) (fun S_9 hS_9 => ?_))
  replace h := h S_9 hS_9
  refine x_aload_n dX4_init_12 rfl ?_
  refine x_bipush (v := 50) dX4_init_13 (by decide) ?_
  refine x_lv (lv' := [(0, aA v0)]) ⟨rfl, trivial⟩ ?_
  obtain ⟨e1, e2, g0, h⟩ := h
  refine x_newJ (N := 50) (by decide) ⟨by decide, by decide⟩ dX4_init_15 e1 e2 ⟨g0, trivial⟩ ⟨g0, trivial⟩ (fun q => ?_)
  replace hQ := hQ.up (q := q) e1.1
  generalize va_up ad _ q = ad at hQ ⊢
  refine x_nSA (n0 := n0) (fun S_15 hS_15 => ?_)
  replace h := h S_15 hS_15
  obtain ⟨h1, h⟩ := h
  refine x_p4_1 rfl rfl dX4_init_17 h1 (x_nSA (n0 := n0) (fun S_17 hS_17 => ?_))
  replace h := h S_17 hS_17
  refine x_aload_n dX4_init_20 rfl ?_
  refine x_iconst (v := 0) dX4_init_21 (by decide) ?_
  obtain ⟨h1, h⟩ := h
  refine x_p4_2 rfl dX4_init_22 h1 (x_nSA (n0 := n0) (fun S_22 hS_22 => ?_))
  replace h := h S_22 hS_22
  refine x_aload_n dX4_init_25 rfl ?_
  refine x_bipush (v := 50) dX4_init_26 (by decide) ?_
  refine x_lv (lv' := [(0, aA v0)]) ⟨rfl, trivial⟩ ?_
  obtain ⟨e1, e2, g0, h⟩ := h
  refine x_newI (N := 50) (by decide) ⟨by decide, by decide⟩ dX4_init_28 e1 e2 ⟨g0, trivial⟩ ⟨g0, trivial⟩ (fun q => ?_)
  replace hQ := hQ.up (q := q) e1.1
  generalize va_up ad _ q = ad at hQ ⊢
  refine x_nSA (n0 := n0) (fun S_28 hS_28 => ?_)
  replace h := h S_28 hS_28
  obtain ⟨h1, h⟩ := h
  refine x_p4_3 rfl rfl dX4_init_30 h1 (x_nSA (n0 := n0) (fun S_30 hS_30 => ?_))
  replace h := h S_30 hS_30
  refine x_aload_n dX4_init_33 rfl ?_
  refine x_bipush (v := 50) dX4_init_34 (by decide) ?_
  refine x_lv (lv' := [(0, aA v0)]) ⟨rfl, trivial⟩ ?_
  obtain ⟨e1, e2, g0, h⟩ := h
  refine x_newI (N := 50) (by decide) ⟨by decide, by decide⟩ dX4_init_36 e1 e2 ⟨g0, trivial⟩ ⟨g0, trivial⟩ (fun q => ?_)
  replace hQ := hQ.up (q := q) e1.1
  generalize va_up ad _ q = ad at hQ ⊢
  refine x_nSA (n0 := n0) (fun S_36 hS_36 => ?_)
  replace h := h S_36 hS_36
  obtain ⟨h1, h⟩ := h
  refine x_p4_4 rfl rfl dX4_init_38 h1 (x_nSA (n0 := n0) (fun S_38 hS_38 => ?_))
  replace h := h S_38 hS_38
  refine x_aload_n dX4_init_41 rfl ?_
  refine x_iconst (v := 0) dX4_init_42 (by decide) ?_
  obtain ⟨h1, h⟩ := h
  refine x_p4_5 rfl dX4_init_43 h1 (x_nSA (n0 := n0) (fun S_43 hS_43 => ?_))
  replace h := h S_43 hS_43
  refine x_aload_n dX4_init_46 rfl ?_
  refine x_lconst (v := 0) dX4_init_47 (by decide) ?_
  obtain ⟨h1, h⟩ := h
  refine x_p4_6 rfl dX4_init_48 h1 (x_nSA (n0 := n0) (fun S_48 hS_48 => ?_))
  replace h := h S_48 hS_48
  refine x_aload_n dX4_init_51 rfl ?_
  refine x_lconst (v := 0) dX4_init_52 (by decide) ?_
  obtain ⟨h1, h⟩ := h
  refine x_p4_7 rfl dX4_init_53 h1 (x_nSA (n0 := n0) (fun S_53 hS_53 => ?_))
  replace h := h S_53 hS_53
  refine x_aload_n dX4_init_56 rfl ?_
  refine x_lconst (v := 0) dX4_init_57 (by decide) ?_
  obtain ⟨h1, h⟩ := h
  refine x_p4_8 rfl dX4_init_58 h1 (x_nSA (n0 := n0) (fun S_58 hS_58 => ?_))
  replace h := h S_58 hS_58
  refine x_aload_n dX4_init_61 rfl ?_
  refine x_lconst (v := 0) dX4_init_62 (by decide) ?_
  obtain ⟨h1, h⟩ := h
  refine x_p4_9 rfl dX4_init_63 h1 (x_nSA (n0 := n0) (fun S_63 hS_63 => ?_))
  replace h := h S_63 hS_63
  exact x_vretA hQ rfl dX4_init_66 h.1 h.2
theorem ctX4_init {G : Launch × va_G × (Nat → ClassId) × Nat} {v0 : Nat} {S : hs} {Post : hs → Prop} (h : PX4_init v0 S.1 S Post) : ctA G mX4_init [aA v0] S Post := by
  refine ctA.of (by decide) (Nat.le_of_ble_eq_true rfl) (fun E ad hG hQ hX => ?_)
  subst hG
  exact xX4_init hX _ S ad hQ h
set_option maxRecDepth 100000 in
set_option maxHeartbeats 4000000 in
theorem xX5_init {E : en} {n0 : Nat} {Post : hs → Prop} (hX : xtra E.2.1.2.2.1) (v0 : Nat) (S : hs) (ad : Nat → Nat) (hQ : isA E mX5_init n0 ad Post) (h : PX5_init v0 n0 S Post) : XA E mX5_init n0 ad S 0 [(0, aA v0)] [] := by
  unfold PX5_init at h
  refine x_aload_n dX5_init_0 rfl ?_
  refine x_objI wa_4 wOI wOC ⟨by decide, by decide⟩ dX5_init_1 (Nat.le_of_ble_eq_true rfl) ?_
  refine x_aload_n dX5_init_4 rfl ?_
  refine x_bipush (v := 30) dX5_init_5 (by decide) ?_
  refine x_lv (lv' := [(0, aA v0)]) ⟨rfl, trivial⟩ ?_
  obtain ⟨e1, e2, g0, h⟩ := h
  refine x_newJ (N := 30) (by decide) ⟨by decide, by decide⟩ dX5_init_7 e1 e2 ⟨g0, trivial⟩ ⟨g0, trivial⟩ (fun q => ?_)
  replace hQ := hQ.up (q := q) e1.1
  generalize va_up ad _ q = ad at hQ ⊢
  refine x_nSA (n0 := n0) (fun S_7 hS_7 => ?_)
  replace h := h S_7 hS_7
  obtain ⟨h1, h⟩ := h
  refine x_p5_0 rfl rfl dX5_init_9 h1 (x_nSA (n0 := n0) (fun S_9 hS_9 => ?_))
  replace h := h S_9 hS_9
  refine x_aload_n dX5_init_12 rfl ?_
  refine x_bipush (v := 30) dX5_init_13 (by decide) ?_
  refine x_lv (lv' := [(0, aA v0)]) ⟨rfl, trivial⟩ ?_
  obtain ⟨e1, e2, g0, h⟩ := h
  refine x_newI (N := 30) (by decide) ⟨by decide, by decide⟩ dX5_init_15 e1 e2 ⟨g0, trivial⟩ ⟨g0, trivial⟩ (fun q => ?_)
  replace hQ := hQ.up (q := q) e1.1
  generalize va_up ad _ q = ad at hQ ⊢
  refine x_nSA (n0 := n0) (fun S_15 hS_15 => ?_)
  replace h := h S_15 hS_15
  obtain ⟨h1, h⟩ := h
  refine x_p5_1 rfl rfl dX5_init_17 h1 (x_nSA (n0 := n0) (fun S_17 hS_17 => ?_))
  replace h := h S_17 hS_17
  refine x_aload_n dX5_init_20 rfl ?_
  refine x_bipush (v := 30) dX5_init_21 (by decide) ?_
  refine x_lv (lv' := [(0, aA v0)]) ⟨rfl, trivial⟩ ?_
  obtain ⟨e1, e2, g0, h⟩ := h
  refine x_newI (N := 30) (by decide) ⟨by decide, by decide⟩ dX5_init_23 e1 e2 ⟨g0, trivial⟩ ⟨g0, trivial⟩ (fun q => ?_)
  replace hQ := hQ.up (q := q) e1.1
  generalize va_up ad _ q = ad at hQ ⊢
  refine x_nSA (n0 := n0) (fun S_23 hS_23 => ?_)
  replace h := h S_23 hS_23
  obtain ⟨h1, h⟩ := h
  refine x_p5_2 rfl rfl dX5_init_25 h1 (x_nSA (n0 := n0) (fun S_25 hS_25 => ?_))
  replace h := h S_25 hS_25
  refine x_aload_n dX5_init_28 rfl ?_
  refine x_iconst (v := 0) dX5_init_29 (by decide) ?_
  obtain ⟨h1, h⟩ := h
  refine x_p5_3 rfl dX5_init_30 h1 (x_nSA (n0 := n0) (fun S_30 hS_30 => ?_))
  replace h := h S_30 hS_30
  exact x_vretA hQ rfl dX5_init_33 h.1 h.2
theorem ctX5_init {G : Launch × va_G × (Nat → ClassId) × Nat} {v0 : Nat} {S : hs} {Post : hs → Prop} (h : PX5_init v0 S.1 S Post) : ctA G mX5_init [aA v0] S Post := by
  refine ctA.of (by decide) (Nat.le_of_ble_eq_true rfl) (fun E ad hG hQ hX => ?_)
  subst hG
  exact xX5_init hX _ S ad hQ h
set_option maxRecDepth 100000 in
set_option maxHeartbeats 4000000 in
theorem xX0_init_29 {E : en} {n0 : Nat} {Post : hs → Prop} (hX : xtra E.2.1.2.2.1)   : ∀ (n : Nat) (v0 : Nat) (v1 : Int32) (S : hs) (ad : Nat → Nat) (_ : isA E mX0_init n0 ad Post) (_ : PX0_init_29 Post n0  n v0 v1 S), XA E mX0_init n0 ad S 29 [(0, aA v0), (1, aI v1)] [] := by
  intro n
  induction n with
  | zero => intro v0 v1 S ad hQ h; exact h.elim
  | succ n ih =>
    intro v0 v1 S ad hQ h
    have hK29 := ih
    simp only [PX0_init_29] at h
    refine x_iload_n dX0_init_29 rfl ?_
    refine x_iconst (v := 4) dX0_init_30 (by decide) ?_
    refine x_icmp_ge (tgt := 53) dX0_init_31 (by decide) (fun c => ?_) (fun c => ?_)
    · replace h := h.1 c
      exact x_vretA hQ rfl dX0_init_53 h.1 h.2
    · replace h := h.2 c
      refine x_aload_n dX0_init_34 rfl ?_
      obtain ⟨h1, r_35, hr_35, h⟩ := h
      refine x_g0_0 rfl dX0_init_35 h1 (x_un hr_35 ?_)
      refine x_iload_n dX0_init_38 rfl ?_
      refine x_lv (lv' := [(0, aA v0), (1, aI v1)]) ⟨rfl, rfl, trivial⟩ ?_
      obtain ⟨e1, e2, g0, g1, h⟩ := h
      refine x_newO (k := 2) tyX2 rfl (by decide) tyX2_ok inG2 (by decide +kernel) (by decide) wa_5 wa_6 wa_7 dX0_init_39 e1 e2 ⟨g0, trivial, trivial⟩ ⟨trivial, g1, trivial⟩ (fun q => ?_)
      replace hQ := hQ.up (q := q) e1.1
      generalize va_up ad _ q = ad at hQ ⊢
      refine x_nSA (n0 := n0) (fun S_39 hS_39 => ?_)
      replace h := h S_39 hS_39
      refine x_dupR dX0_init_42 ?_
      refine x_lv (lv' := [(0, aA v0), (1, aI v1)]) ⟨rfl, rfl, trivial⟩ ?_
      obtain ⟨e1, g0, g1, g2, h⟩ := h
      refine x_cAN (As := []) (st := [aA (Prod.fst S), aI v1, aA r_35]) (c0 := 2) cnX2_init hX.1 ⟨by decide, by decide⟩ dX0_init_43 rfl (Nat.le_of_ble_eq_true rfl) hX ⟨g0, trivial, trivial⟩ ⟨g1, trivial, g2, trivial⟩ rfl rfl e1 (ctX2_init h) (fun S_43 ad1 hag hle h => ?_)
      replace hQ := hQ.ag hag e1.1
      replace h := And.intro hle h
      clear hag
      generalize ad1 = ad at hQ ⊢
      replace h := h.2
      obtain ⟨h1, h2, h⟩ := h
      refine x_aast (k := 12) (ko := 2) (t0 := 4) (by decide) (by decide) rfl (fun _ => rfl) dX0_init_46 h1 h2 (x_nSA (n0 := n0) (fun S_46 hS_46 => ?_))
      replace h := h S_46 hS_46
      obtain ⟨v1_47, hv1_47⟩ : ∃ y : Int32, y = v1 + 1 := ⟨_, rfl⟩
      replace h := h v1_47 hv1_47
      refine x_iinc (v := v1_47) dX0_init_47 rfl (by rw [hv1_47]; rfl) (by decide) rfl ?_
      refine x_goto (tgt := 29) dX0_init_50 (by decide) ?_
      refine x_lv (lv' := [(0, aA v0), (1, aI v1_47)]) ⟨rfl, rfl, trivial⟩ ?_
      exact hK29 _ _ _ _ hQ h
set_option maxRecDepth 100000 in
set_option maxHeartbeats 4000000 in
theorem xX0_init {E : en} {n0 : Nat} {Post : hs → Prop} (hX : xtra E.2.1.2.2.1) (v0 : Nat) (S : hs) (ad : Nat → Nat) (hQ : isA E mX0_init n0 ad Post) (h : PX0_init v0 n0 S Post) : XA E mX0_init n0 ad S 0 [(0, aA v0)] [] := by
  unfold PX0_init at h
  refine x_aload_n dX0_init_0 rfl ?_
  refine x_objI wa_8 wOI wOC ⟨by decide, by decide⟩ dX0_init_1 (Nat.le_of_ble_eq_true rfl) ?_
  refine x_aload_n dX0_init_4 rfl ?_
  refine x_iconst (v := 4) dX0_init_5 (by decide) ?_
  refine x_lv (lv' := [(0, aA v0)]) ⟨rfl, trivial⟩ ?_
  obtain ⟨e1, e2, g0, h⟩ := h
  refine x_newq (N := 4) (k := 12) (t0 := 4) (C := RX2) (by decide) (fun _ => rfl) wa_5 hX.2.2.2.2.2.2.1 (by decide) (by decide) (by decide) dX0_init_6 e1 e2 ⟨g0, trivial⟩ ⟨g0, trivial⟩ (fun q => ?_)
  replace hQ := hQ.up (q := q) e1.1
  generalize va_up ad _ q = ad at hQ ⊢
  refine x_nSA (n0 := n0) (fun S_6 hS_6 => ?_)
  replace h := h S_6 hS_6
  obtain ⟨h1, h⟩ := h
  refine x_p0_0 rfl rfl dX0_init_9 h1 (x_nSA (n0 := n0) (fun S_9 hS_9 => ?_))
  replace h := h S_9 hS_9
  refine x_aload_n dX0_init_12 rfl ?_
  refine x_iconst (v := 0) dX0_init_13 (by decide) ?_
  obtain ⟨h1, h⟩ := h
  refine x_p0_1 rfl dX0_init_14 h1 (x_nSA (n0 := n0) (fun S_14 hS_14 => ?_))
  replace h := h S_14 hS_14
  refine x_aload_n dX0_init_17 rfl ?_
  refine x_iconst (v := 1) dX0_init_18 (by decide) ?_
  obtain ⟨h1, h⟩ := h
  refine x_p0_2 rfl dX0_init_19 h1 (Or.inr rfl) (x_nSA (n0 := n0) (fun S_19 hS_19 => ?_))
  replace h := h S_19 hS_19
  refine x_aload_n dX0_init_22 rfl ?_
  refine x_lconst (v := 0) dX0_init_23 (by decide) ?_
  obtain ⟨h1, h⟩ := h
  refine x_p0_3 rfl dX0_init_24 h1 (x_nSA (n0 := n0) (fun S_24 hS_24 => ?_))
  replace h := h S_24 hS_24
  refine x_iconst (v := 0) dX0_init_27 (by decide) ?_
  refine x_istore_n dX0_init_28 (by decide) rfl ?_
  refine x_lv (lv' := [(0, aA v0), (1, aI 0)]) ⟨rfl, rfl, trivial⟩ ?_
  obtain ⟨n, h⟩ := h
  exact xX0_init_29 hX  n _ _ _ _ hQ h
theorem ctX0_init {G : Launch × va_G × (Nat → ClassId) × Nat} {v0 : Nat} {S : hs} {Post : hs → Prop} (h : PX0_init v0 S.1 S Post) : ctA G mX0_init [aA v0] S Post := by
  refine ctA.of (by decide) (Nat.le_of_ble_eq_true rfl) (fun E ad hG hQ hX => ?_)
  subst hG
  exact xX0_init hX _ S ad hQ h
set_option maxRecDepth 100000 in
set_option maxHeartbeats 4000000 in
theorem xX6_init_73 {E : en} {n0 : Nat} {Post : hs → Prop} (hX : xtra E.2.1.2.2.1)   : ∀ (n : Nat) (v0 : Nat) (v2 : Int32) (S : hs) (ad : Nat → Nat) (_ : isA E mX6_init n0 ad Post) (_ : PX6_init_73 Post n0  n v0 v2 S), XA E mX6_init n0 ad S 73 [(0, aA v0), (2, aI v2)] [] := by
  intro n
  induction n with
  | zero => intro v0 v2 S ad hQ h; exact h.elim
  | succ n ih =>
    intro v0 v2 S ad hQ h
    have hK73 := ih
    simp only [PX6_init_73] at h
    refine x_iload_n dX6_init_73 rfl ?_
    refine x_aload_n dX6_init_74 rfl ?_
    obtain ⟨h1, r_75, hr_75, h⟩ := h
    refine x_g6_2 rfl dX6_init_75 h1 (x_un hr_75 ?_)
    refine x_alen13 dX6_init_78 h.1 ?_
    replace h := h.2
    refine x_icmp_ge (tgt := 101) dX6_init_79 (by decide) (fun c => ?_) (fun c => ?_)
    · replace h := h.1 c
      refine x_aload_n dX6_init_101 rfl ?_
      refine x_iconst (v := 0) dX6_init_102 (by decide) ?_
      obtain ⟨h1, h⟩ := h
      refine x_p6_3 rfl dX6_init_103 h1 (x_nSA (n0 := n0) (fun S_103 hS_103 => ?_))
      replace h := h S_103 hS_103
      refine x_aload_n dX6_init_106 rfl ?_
      refine x_lv (lv' := [(0, aA v0), (2, aI v2)]) ⟨rfl, rfl, trivial⟩ ?_
      obtain ⟨e1, e2, g0, h⟩ := h
      refine x_newO (k := 4) tyX4 rfl (by decide) tyX4_ok inG4 (by decide +kernel) (by decide) wa_9 wa_10 wa_11 dX6_init_107 e1 e2 ⟨g0, trivial, trivial⟩ ⟨g0, trivial⟩ (fun q => ?_)
      replace hQ := hQ.up (q := q) e1.1
      generalize va_up ad _ q = ad at hQ ⊢
      refine x_nSA (n0 := n0) (fun S_107 hS_107 => ?_)
      replace h := h S_107 hS_107
      refine x_dupR dX6_init_110 ?_
      refine x_lv (lv' := [(0, aA v0), (2, aI v2)]) ⟨rfl, rfl, trivial⟩ ?_
      obtain ⟨e1, g0, g1, h⟩ := h
      refine x_cAN (As := []) (st := [aA (Prod.fst S_103), aA v0]) (c0 := 4) cnX4_init hX.2.2.2.1 ⟨by decide, by decide⟩ dX6_init_111 rfl (Nat.le_of_ble_eq_true rfl) hX ⟨g0, trivial, trivial⟩ ⟨g1, g0, trivial⟩ rfl rfl e1 (ctX4_init h) (fun S_111 ad1 hag hle h => ?_)
      replace hQ := hQ.ag hag e1.1
      replace h := And.intro hle h
      clear hag
      generalize ad1 = ad at hQ ⊢
      replace h := h.2
      obtain ⟨h1, h⟩ := h
      refine x_p6_4 rfl rfl dX6_init_114 h1 (x_nSA (n0 := n0) (fun S_114 hS_114 => ?_))
      replace h := h S_114 hS_114
      refine x_aload_n dX6_init_117 rfl ?_
      refine x_lv (lv' := [(0, aA v0), (2, aI v2)]) ⟨rfl, rfl, trivial⟩ ?_
      obtain ⟨e1, e2, g0, h⟩ := h
      refine x_newO (k := 1) tyX1 rfl (by decide) tyX1_ok inG1 (by decide +kernel) (by decide) wa_12 wa_13 wa_14 dX6_init_118 e1 e2 ⟨g0, trivial, trivial⟩ ⟨g0, trivial⟩ (fun q => ?_)
      replace hQ := hQ.up (q := q) e1.1
      generalize va_up ad _ q = ad at hQ ⊢
      refine x_nSA (n0 := n0) (fun S_118 hS_118 => ?_)
      replace h := h S_118 hS_118
      refine x_dupR dX6_init_121 ?_
      refine x_lv (lv' := [(0, aA v0), (2, aI v2)]) ⟨rfl, rfl, trivial⟩ ?_
      obtain ⟨e1, g0, g1, h⟩ := h
      refine x_cAN (As := []) (st := [aA (Prod.fst S_114), aA v0]) (c0 := 5) cnX1_init hX.2.2.2.2.1 ⟨by decide, by decide⟩ dX6_init_122 rfl (Nat.le_of_ble_eq_true rfl) hX ⟨g0, trivial, trivial⟩ ⟨g1, g0, trivial⟩ rfl rfl e1 (ctX1_init h) (fun S_122 ad1 hag hle h => ?_)
      replace hQ := hQ.ag hag e1.1
      replace h := And.intro hle h
      clear hag
      generalize ad1 = ad at hQ ⊢
      replace h := h.2
      obtain ⟨h1, h⟩ := h
      refine x_p6_5 rfl dX6_init_125 h1 (x_nSA (n0 := n0) (fun S_125 hS_125 => ?_))
      replace h := h S_125 hS_125
      refine x_aload_n dX6_init_128 rfl ?_
      refine x_lv (lv' := [(0, aA v0), (2, aI v2)]) ⟨rfl, rfl, trivial⟩ ?_
      obtain ⟨e1, e2, g0, h⟩ := h
      refine x_newO (k := 1) tyX1 rfl (by decide) tyX1_ok inG1 (by decide +kernel) (by decide) wa_12 wa_13 wa_14 dX6_init_129 e1 e2 ⟨g0, trivial, trivial⟩ ⟨g0, trivial⟩ (fun q => ?_)
      replace hQ := hQ.up (q := q) e1.1
      generalize va_up ad _ q = ad at hQ ⊢
      refine x_nSA (n0 := n0) (fun S_129 hS_129 => ?_)
      replace h := h S_129 hS_129
      refine x_dupR dX6_init_132 ?_
      refine x_lv (lv' := [(0, aA v0), (2, aI v2)]) ⟨rfl, rfl, trivial⟩ ?_
      obtain ⟨e1, g0, g1, h⟩ := h
      refine x_cAN (As := []) (st := [aA (Prod.fst S_125), aA v0]) (c0 := 5) cnX1_init hX.2.2.2.2.1 ⟨by decide, by decide⟩ dX6_init_133 rfl (Nat.le_of_ble_eq_true rfl) hX ⟨g0, trivial, trivial⟩ ⟨g1, g0, trivial⟩ rfl rfl e1 (ctX1_init h) (fun S_133 ad1 hag hle h => ?_)
      replace hQ := hQ.ag hag e1.1
      replace h := And.intro hle h
      clear hag
      generalize ad1 = ad at hQ ⊢
      replace h := h.2
      obtain ⟨h1, h⟩ := h
      refine x_p6_6 rfl dX6_init_136 h1 (x_nSA (n0 := n0) (fun S_136 hS_136 => ?_))
      replace h := h S_136 hS_136
      exact x_vretA hQ rfl dX6_init_139 h.1 h.2
    · replace h := h.2 c
      refine x_aload_n dX6_init_82 rfl ?_
      obtain ⟨h1, r_83, hr_83, h⟩ := h
      refine x_g6_2 rfl dX6_init_83 h1 (x_un hr_83 ?_)
      refine x_iload_n dX6_init_86 rfl ?_
      refine x_lv (lv' := [(0, aA v0), (2, aI v2)]) ⟨rfl, rfl, trivial⟩ ?_
      obtain ⟨e1, e2, g0, g1, h⟩ := h
      refine x_newO (k := 5) tyX5 rfl (by decide) tyX5_ok inG5 (by decide +kernel) (by decide) wa_15 wa_16 wa_17 dX6_init_87 e1 e2 ⟨g0, trivial, trivial⟩ ⟨trivial, g1, trivial⟩ (fun q => ?_)
      replace hQ := hQ.up (q := q) e1.1
      generalize va_up ad _ q = ad at hQ ⊢
      refine x_nSA (n0 := n0) (fun S_87 hS_87 => ?_)
      replace h := h S_87 hS_87
      refine x_dupR dX6_init_90 ?_
      refine x_lv (lv' := [(0, aA v0), (2, aI v2)]) ⟨rfl, rfl, trivial⟩ ?_
      obtain ⟨e1, g0, g1, g2, h⟩ := h
      refine x_cAN (As := []) (st := [aA (Prod.fst S), aI v2, aA r_83]) (c0 := 3) cnX5_init hX.2.2.1 ⟨by decide, by decide⟩ dX6_init_91 rfl (Nat.le_of_ble_eq_true rfl) hX ⟨g0, trivial, trivial⟩ ⟨g1, trivial, g2, trivial⟩ rfl rfl e1 (ctX5_init h) (fun S_91 ad1 hag hle h => ?_)
      replace hQ := hQ.ag hag e1.1
      replace h := And.intro hle h
      clear hag
      generalize ad1 = ad at hQ ⊢
      replace h := h.2
      obtain ⟨h1, h2, h⟩ := h
      refine x_aast (k := 13) (ko := 5) (t0 := 5) (by decide) (by decide) rfl (fun _ => rfl) dX6_init_94 h1 h2 (x_nSA (n0 := n0) (fun S_94 hS_94 => ?_))
      replace h := h S_94 hS_94
      obtain ⟨v2_95, hv2_95⟩ : ∃ y : Int32, y = v2 + 1 := ⟨_, rfl⟩
      replace h := h v2_95 hv2_95
      refine x_iinc (v := v2_95) dX6_init_95 rfl (by rw [hv2_95]; rfl) (by decide) rfl ?_
      refine x_goto (tgt := 73) dX6_init_98 (by decide) ?_
      refine x_lv (lv' := [(0, aA v0), (2, aI v2_95)]) ⟨rfl, rfl, trivial⟩ ?_
      exact hK73 _ _ _ _ hQ h
set_option maxRecDepth 100000 in
set_option maxHeartbeats 4000000 in
theorem xX6_init_23 {E : en} {n0 : Nat} {Post : hs → Prop} (hX : xtra E.2.1.2.2.1)   : ∀ (n : Nat) (v0 : Nat) (v2 : Int32) (S : hs) (ad : Nat → Nat) (_ : isA E mX6_init n0 ad Post) (_ : PX6_init_23 Post n0  n v0 v2 S), XA E mX6_init n0 ad S 23 [(0, aA v0), (2, aI v2)] [] := by
  intro n
  induction n with
  | zero => intro v0 v2 S ad hQ h; exact h.elim
  | succ n ih =>
    intro v0 v2 S ad hQ h
    have hK23 := ih
    simp only [PX6_init_23] at h
    refine x_iload_n dX6_init_23 rfl ?_
    refine x_aload_n dX6_init_24 rfl ?_
    obtain ⟨h1, r_25, hr_25, h⟩ := h
    refine x_g6_0 rfl dX6_init_25 h1 (x_un hr_25 ?_)
    refine x_alen11 dX6_init_28 h.1 ?_
    replace h := h.2
    refine x_icmp_ge (tgt := 51) dX6_init_29 (by decide) (fun c => ?_) (fun c => ?_)
    · replace h := h.1 c
      refine x_aload_n dX6_init_51 rfl ?_
      refine x_lv (lv' := [(0, aA v0), (2, aI v2)]) ⟨rfl, rfl, trivial⟩ ?_
      obtain ⟨e1, e2, g0, h⟩ := h
      refine x_newO (k := 3) tyX3 rfl (by decide) tyX3_ok inG3 (by decide +kernel) (by decide) wa_18 wa_19 wa_20 dX6_init_52 e1 e2 ⟨g0, trivial, trivial⟩ ⟨g0, trivial⟩ (fun q => ?_)
      replace hQ := hQ.up (q := q) e1.1
      generalize va_up ad _ q = ad at hQ ⊢
      refine x_nSA (n0 := n0) (fun S_52 hS_52 => ?_)
      replace h := h S_52 hS_52
      refine x_dupR dX6_init_55 ?_
      refine x_lv (lv' := [(0, aA v0), (2, aI v2)]) ⟨rfl, rfl, trivial⟩ ?_
      obtain ⟨e1, g0, g1, h⟩ := h
      refine x_cAN (As := []) (st := [aA (Prod.fst S), aA v0]) (c0 := 4) cnX3_init hX.2.1 ⟨by decide, by decide⟩ dX6_init_56 rfl (Nat.le_of_ble_eq_true rfl) hX ⟨g0, trivial, trivial⟩ ⟨g1, g0, trivial⟩ rfl rfl e1 (ctX3_init h) (fun S_56 ad1 hag hle h => ?_)
      replace hQ := hQ.ag hag e1.1
      replace h := And.intro hle h
      clear hag
      generalize ad1 = ad at hQ ⊢
      replace h := h.2
      obtain ⟨h1, h⟩ := h
      refine x_p6_1 rfl rfl dX6_init_59 h1 (x_nSA (n0 := n0) (fun S_59 hS_59 => ?_))
      replace h := h S_59 hS_59
      refine x_aload_n dX6_init_62 rfl ?_
      refine x_bipush (v := 6) dX6_init_63 (by decide) ?_
      refine x_lv (lv' := [(0, aA v0), (2, aI v2)]) ⟨rfl, rfl, trivial⟩ ?_
      obtain ⟨e1, e2, g0, h⟩ := h
      refine x_newq (N := 6) (k := 13) (t0 := 5) (C := RX5) (by decide) (fun _ => rfl) wa_15 hX.2.2.2.2.2.2.2 (by decide) (by decide) (by decide) dX6_init_65 e1 e2 ⟨g0, trivial, trivial⟩ ⟨g0, trivial⟩ (fun q => ?_)
      replace hQ := hQ.up (q := q) e1.1
      generalize va_up ad _ q = ad at hQ ⊢
      refine x_nSA (n0 := n0) (fun S_65 hS_65 => ?_)
      replace h := h S_65 hS_65
      obtain ⟨h1, h⟩ := h
      refine x_p6_2 rfl rfl dX6_init_68 h1 (x_nSA (n0 := n0) (fun S_68 hS_68 => ?_))
      replace h := h S_68 hS_68
      refine x_iconst (v := 0) dX6_init_71 (by decide) ?_
      refine x_istore_n dX6_init_72 (by decide) rfl ?_
      refine x_lv (lv' := [(0, aA v0), (2, aI 0)]) ⟨rfl, rfl, trivial⟩ ?_
      obtain ⟨n, h⟩ := h
      exact xX6_init_73 hX  n _ _ _ _ hQ h
    · replace h := h.2 c
      refine x_aload_n dX6_init_32 rfl ?_
      obtain ⟨h1, r_33, hr_33, h⟩ := h
      refine x_g6_0 rfl dX6_init_33 h1 (x_un hr_33 ?_)
      refine x_iload_n dX6_init_36 rfl ?_
      refine x_lv (lv' := [(0, aA v0), (2, aI v2)]) ⟨rfl, rfl, trivial⟩ ?_
      obtain ⟨e1, e2, g0, g1, h⟩ := h
      refine x_newO (k := 0) tyX0 rfl (by decide) tyX0_ok inG0 (by decide +kernel) (by decide) wa_21 wa_22 wa_23 dX6_init_37 e1 e2 ⟨g0, trivial, trivial⟩ ⟨trivial, g1, trivial⟩ (fun q => ?_)
      replace hQ := hQ.up (q := q) e1.1
      generalize va_up ad _ q = ad at hQ ⊢
      refine x_nSA (n0 := n0) (fun S_37 hS_37 => ?_)
      replace h := h S_37 hS_37
      refine x_dupR dX6_init_40 ?_
      refine x_lv (lv' := [(0, aA v0), (2, aI v2)]) ⟨rfl, rfl, trivial⟩ ?_
      obtain ⟨e1, g0, g1, g2, h⟩ := h
      refine x_cA (As := []) (st := [aA (Prod.fst S), aI v2, aA r_33]) (c0 := 13) kX6_24 rfl ⟨by decide, by decide⟩ dX6_init_41 rfl (Nat.le_of_ble_eq_true rfl) hX ⟨g0, trivial, trivial⟩ ⟨g1, trivial, g2, trivial⟩ rfl rfl e1 (ctX0_init h) (fun S_41 ad1 hag hle h => ?_)
      replace hQ := hQ.ag hag e1.1
      replace h := And.intro hle h
      clear hag
      generalize ad1 = ad at hQ ⊢
      replace h := h.2
      obtain ⟨h1, h2, h⟩ := h
      refine x_aast (k := 11) (ko := 0) (t0 := 3) (by decide) (by decide) rfl (fun _ => rfl) dX6_init_44 h1 h2 (x_nSA (n0 := n0) (fun S_44 hS_44 => ?_))
      replace h := h S_44 hS_44
      obtain ⟨v2_45, hv2_45⟩ : ∃ y : Int32, y = v2 + 1 := ⟨_, rfl⟩
      replace h := h v2_45 hv2_45
      refine x_iinc (v := v2_45) dX6_init_45 rfl (by rw [hv2_45]; rfl) (by decide) rfl ?_
      refine x_goto (tgt := 23) dX6_init_48 (by decide) ?_
      refine x_lv (lv' := [(0, aA v0), (2, aI v2_45)]) ⟨rfl, rfl, trivial⟩ ?_
      exact hK23 _ _ _ _ hQ h
set_option maxRecDepth 100000 in
set_option maxHeartbeats 4000000 in
theorem xX6_init {E : en} {n0 : Nat} {Post : hs → Prop} (hX : xtra E.2.1.2.2.1) (v0 : Nat) (v1 : Int32) (S : hs) (ad : Nat → Nat) (hQ : isA E mX6_init n0 ad Post) (h : PX6_init v0 v1 n0 S Post) : XA E mX6_init n0 ad S 0 [(0, aA v0), (1, aI v1)] [] := by
  unfold PX6_init at h
  refine x_aload_n dX6_init_0 rfl ?_
  refine x_objI wa_24 wOI wOC ⟨by decide, by decide⟩ dX6_init_1 (Nat.le_of_ble_eq_true rfl) ?_
  refine x_aload_n dX6_init_4 rfl ?_
  refine x_iconst (v := 1) dX6_init_5 (by decide) ?_
  refine x_bipush (v := 12) dX6_init_6 (by decide) ?_
  refine x_iload_n dX6_init_8 rfl ?_
  refine x_mmin kX6_9 rfl ⟨by decide, by decide⟩ dX6_init_9 (Nat.le_of_ble_eq_true rfl) h.1 ?_
  replace h := h.2
  refine x_nI (fun u_9 hu_9 => ?_)
  replace h := h u_9 hu_9
  refine x_mmax kX6_15 rfl ⟨by decide, by decide⟩ dX6_init_12 (Nat.le_of_ble_eq_true rfl) h.1 ?_
  replace h := h.2
  refine x_nI (fun u_12 hu_12 => ?_)
  replace h := h u_12 hu_12
  refine x_lv (lv' := [(0, aA v0), (1, aI v1)]) ⟨rfl, rfl, trivial⟩ ?_
  obtain ⟨e1, e2, g0, e3, h⟩ := h
  refine x_newq (N := (Int32.toNatClampNeg u_12)) (k := 11) (t0 := 3) (C := RX0) (by decide) (fun _ => rfl) wa_21 hX.2.2.2.2.2.1 e3.1 rfl e3.2 dX6_init_15 e1 e2 ⟨g0, trivial, trivial⟩ ⟨g0, trivial⟩ (fun q => ?_)
  replace hQ := hQ.up (q := q) e1.1
  generalize va_up ad _ q = ad at hQ ⊢
  refine x_nSA (n0 := n0) (fun S_15 hS_15 => ?_)
  replace h := h S_15 hS_15
  obtain ⟨h1, h⟩ := h
  refine x_p6_0 rfl rfl dX6_init_18 h1 (x_nSA (n0 := n0) (fun S_18 hS_18 => ?_))
  replace h := h S_18 hS_18
  refine x_iconst (v := 0) dX6_init_21 (by decide) ?_
  refine x_istore_n dX6_init_22 (by decide) rfl ?_
  refine x_lv (lv' := [(0, aA v0), (2, aI 0)]) ⟨rfl, rfl, trivial⟩ ?_
  obtain ⟨n, h⟩ := h
  exact xX6_init_23 hX  n _ _ _ _ hQ h
theorem ctX6_init {G : Launch × va_G × (Nat → ClassId) × Nat} {v0 : Nat} {v1 : Int32} {S : hs} {Post : hs → Prop} (h : PX6_init v0 v1 S.1 S Post) : ctA G mX6_init [aA v0, aI v1] S Post := by
  refine ctA.of (by decide) (Nat.le_of_ble_eq_true rfl) (fun E ad hG hQ hX => ?_)
  subst hG
  exact xX6_init hX _ _ S ad hQ h
set_option maxRecDepth 100000 in
set_option maxHeartbeats 4000000 in
theorem xX7_init_202 {E : en} {n0 : Nat} {Post : hs → Prop} (hX : xtra E.2.1.2.2.1)   : ∀ (n : Nat) (v0 : Nat) (v2 : Int32) (S : hs) (ad : Nat → Nat) (_ : isA E mX7_init n0 ad Post) (_ : PX7_init_202 Post n0  n v0 v2 S), XA E mX7_init n0 ad S 202 [(0, aA v0), (2, aI v2)] [] := by
  intro n
  induction n with
  | zero => intro v0 v2 S ad hQ h; exact h.elim
  | succ n ih =>
    intro v0 v2 S ad hQ h
    have hK202 := ih
    simp only [PX7_init_202] at h
    refine x_iload_n dX7_init_202 rfl ?_
    refine x_bipush (v := 12) dX7_init_203 (by decide) ?_
    refine x_icmp_ge (tgt := 221) dX7_init_205 (by decide) (fun c => ?_) (fun c => ?_)
    · replace h := h.1 c
      exact x_vretA hQ rfl dX7_init_221 h.1 h.2
    · replace h := h.2 c
      refine x_aload_n dX7_init_208 rfl ?_
      obtain ⟨h1, r_209, hr_209, h⟩ := h
      refine x_g7_6 rfl dX7_init_209 h1 (x_un hr_209 ?_)
      refine x_iload_n dX7_init_212 rfl ?_
      refine x_iconst (v := 1) dX7_init_213 (by decide) ?_
      obtain ⟨h1, h⟩ := h
      refine x_zast dX7_init_214 h1 (Or.inr rfl) (x_nSA (n0 := n0) (fun S_214 hS_214 => ?_))
      replace h := h S_214 hS_214
      obtain ⟨v2_215, hv2_215⟩ : ∃ y : Int32, y = v2 + 1 := ⟨_, rfl⟩
      replace h := h v2_215 hv2_215
      refine x_iinc (v := v2_215) dX7_init_215 rfl (by rw [hv2_215]; rfl) (by decide) rfl ?_
      refine x_goto (tgt := 202) dX7_init_218 (by decide) ?_
      refine x_lv (lv' := [(0, aA v0), (2, aI v2_215)]) ⟨rfl, rfl, trivial⟩ ?_
      exact hK202 _ _ _ _ hQ h
set_option maxRecDepth 100000 in
set_option maxHeartbeats 4000000 in
theorem xX7_init_197 {E : en} {n0 : Nat} {Post : hs → Prop} (hX : xtra E.2.1.2.2.1)   (v0 : Nat) (s0 : Nat) (s1 : Int32) (S : hs) (ad : Nat → Nat) (hQ : isA E mX7_init n0 ad Post) (h : PX7_init_197 Post n0  v0 s0 s1 S) : XA E mX7_init n0 ad S 197 [(0, aA v0)] [aI s1, aA s0] := by
  unfold PX7_init_197 at h
  obtain ⟨h1, h⟩ := h
  refine x_p7_1 rfl dX7_init_197 h1 (x_nSA (n0 := n0) (fun S_197 hS_197 => ?_))
  replace h := h S_197 hS_197
  refine x_iconst (v := 0) dX7_init_200 (by decide) ?_
  refine x_istore_n dX7_init_201 (by decide) rfl ?_
  refine x_lv (lv' := [(0, aA v0), (2, aI 0)]) ⟨rfl, rfl, trivial⟩ ?_
  obtain ⟨n, h⟩ := h
  exact xX7_init_202 hX  n _ _ _ _ hQ h
set_option maxRecDepth 100000 in
set_option maxHeartbeats 4000000 in
theorem xX7_init {E : en} {n0 : Nat} {Post : hs → Prop} (hX : xtra E.2.1.2.2.1) (v0 : Nat) (v1 : Int32) (S : hs) (ad : Nat → Nat) (hQ : isA E mX7_init n0 ad Post) (h : PX7_init v0 v1 n0 S Post) : XA E mX7_init n0 ad S 0 [(0, aA v0), (1, aI v1)] [] := by
  unfold PX7_init at h
  refine x_aload_n dX7_init_0 rfl ?_
  refine x_objI wa_25 wOI wOC ⟨by decide, by decide⟩ dX7_init_1 (Nat.le_of_ble_eq_true rfl) ?_
  refine x_aload_n dX7_init_4 rfl ?_
  refine x_sipush (v := 576) dX7_init_5 (by decide) ?_
  refine x_lv (lv' := [(0, aA v0), (1, aI v1)]) ⟨rfl, rfl, trivial⟩ ?_
  obtain ⟨e1, e2, g0, h⟩ := h
  refine x_newJ (N := 576) (by decide) ⟨by decide, by decide⟩ dX7_init_8 e1 e2 ⟨g0, trivial, trivial⟩ ⟨g0, trivial⟩ (fun q => ?_)
  replace hQ := hQ.up (q := q) e1.1
  generalize va_up ad _ q = ad at hQ ⊢
  refine x_nSA (n0 := n0) (fun S_8 hS_8 => ?_)
  replace h := h S_8 hS_8
  obtain ⟨h1, h⟩ := h
  refine x_p7_2 rfl rfl dX7_init_10 h1 (x_nSA (n0 := n0) (fun S_10 hS_10 => ?_))
  replace h := h S_10 hS_10
  refine x_aload_n dX7_init_13 rfl ?_
  refine x_sipush (v := 576) dX7_init_14 (by decide) ?_
  refine x_lv (lv' := [(0, aA v0), (1, aI v1)]) ⟨rfl, rfl, trivial⟩ ?_
  obtain ⟨e1, e2, g0, h⟩ := h
  refine x_newJ (N := 576) (by decide) ⟨by decide, by decide⟩ dX7_init_17 e1 e2 ⟨g0, trivial, trivial⟩ ⟨g0, trivial⟩ (fun q => ?_)
  replace hQ := hQ.up (q := q) e1.1
  generalize va_up ad _ q = ad at hQ ⊢
  refine x_nSA (n0 := n0) (fun S_17 hS_17 => ?_)
  replace h := h S_17 hS_17
  obtain ⟨h1, h⟩ := h
  refine x_p7_3 rfl rfl dX7_init_19 h1 (x_nSA (n0 := n0) (fun S_19 hS_19 => ?_))
  replace h := h S_19 hS_19
  refine x_aload_n dX7_init_22 rfl ?_
  refine x_bipush (v := 48) dX7_init_23 (by decide) ?_
  refine x_lv (lv' := [(0, aA v0), (1, aI v1)]) ⟨rfl, rfl, trivial⟩ ?_
  obtain ⟨e1, e2, g0, h⟩ := h
  refine x_newI (N := 48) (by decide) ⟨by decide, by decide⟩ dX7_init_25 e1 e2 ⟨g0, trivial, trivial⟩ ⟨g0, trivial⟩ (fun q => ?_)
  replace hQ := hQ.up (q := q) e1.1
  generalize va_up ad _ q = ad at hQ ⊢
  refine x_nSA (n0 := n0) (fun S_25 hS_25 => ?_)
  replace h := h S_25 hS_25
  obtain ⟨h1, h⟩ := h
  refine x_p7_4 rfl rfl dX7_init_27 h1 (x_nSA (n0 := n0) (fun S_27 hS_27 => ?_))
  replace h := h S_27 hS_27
  refine x_aload_n dX7_init_30 rfl ?_
  refine x_bipush (v := 12) dX7_init_31 (by decide) ?_
  refine x_lv (lv' := [(0, aA v0), (1, aI v1)]) ⟨rfl, rfl, trivial⟩ ?_
  obtain ⟨e1, e2, g0, h⟩ := h
  refine x_newI (N := 12) (by decide) ⟨by decide, by decide⟩ dX7_init_33 e1 e2 ⟨g0, trivial, trivial⟩ ⟨g0, trivial⟩ (fun q => ?_)
  replace hQ := hQ.up (q := q) e1.1
  generalize va_up ad _ q = ad at hQ ⊢
  refine x_nSA (n0 := n0) (fun S_33 hS_33 => ?_)
  replace h := h S_33 hS_33
  obtain ⟨h1, h⟩ := h
  refine x_p7_5 rfl rfl dX7_init_35 h1 (x_nSA (n0 := n0) (fun S_35 hS_35 => ?_))
  replace h := h S_35 hS_35
  refine x_aload_n dX7_init_38 rfl ?_
  refine x_bipush (v := 12) dX7_init_39 (by decide) ?_
  refine x_lv (lv' := [(0, aA v0), (1, aI v1)]) ⟨rfl, rfl, trivial⟩ ?_
  obtain ⟨e1, e2, g0, h⟩ := h
  refine x_newZ (N := 12) (by decide) ⟨by decide, by decide⟩ dX7_init_41 e1 e2 ⟨g0, trivial, trivial⟩ ⟨g0, trivial⟩ (fun q => ?_)
  replace hQ := hQ.up (q := q) e1.1
  generalize va_up ad _ q = ad at hQ ⊢
  refine x_nSA (n0 := n0) (fun S_41 hS_41 => ?_)
  replace h := h S_41 hS_41
  obtain ⟨h1, h⟩ := h
  refine x_p7_6 rfl rfl dX7_init_43 h1 (x_nSA (n0 := n0) (fun S_43 hS_43 => ?_))
  replace h := h S_43 hS_43
  refine x_aload_n dX7_init_46 rfl ?_
  refine x_bipush (v := 12) dX7_init_47 (by decide) ?_
  refine x_lv (lv' := [(0, aA v0), (1, aI v1)]) ⟨rfl, rfl, trivial⟩ ?_
  obtain ⟨e1, e2, g0, h⟩ := h
  refine x_newJ (N := 12) (by decide) ⟨by decide, by decide⟩ dX7_init_49 e1 e2 ⟨g0, trivial, trivial⟩ ⟨g0, trivial⟩ (fun q => ?_)
  replace hQ := hQ.up (q := q) e1.1
  generalize va_up ad _ q = ad at hQ ⊢
  refine x_nSA (n0 := n0) (fun S_49 hS_49 => ?_)
  replace h := h S_49 hS_49
  obtain ⟨h1, h⟩ := h
  refine x_p7_7 rfl rfl dX7_init_51 h1 (x_nSA (n0 := n0) (fun S_51 hS_51 => ?_))
  replace h := h S_51 hS_51
  refine x_aload_n dX7_init_54 rfl ?_
  refine x_bipush (v := 40) dX7_init_55 (by decide) ?_
  refine x_lv (lv' := [(0, aA v0), (1, aI v1)]) ⟨rfl, rfl, trivial⟩ ?_
  obtain ⟨e1, e2, g0, h⟩ := h
  refine x_newI (N := 40) (by decide) ⟨by decide, by decide⟩ dX7_init_57 e1 e2 ⟨g0, trivial, trivial⟩ ⟨g0, trivial⟩ (fun q => ?_)
  replace hQ := hQ.up (q := q) e1.1
  generalize va_up ad _ q = ad at hQ ⊢
  refine x_nSA (n0 := n0) (fun S_57 hS_57 => ?_)
  replace h := h S_57 hS_57
  obtain ⟨h1, h⟩ := h
  refine x_p7_9 rfl rfl dX7_init_59 h1 (x_nSA (n0 := n0) (fun S_59 hS_59 => ?_))
  replace h := h S_59 hS_59
  refine x_aload_n dX7_init_62 rfl ?_
  refine x_bipush (v := 40) dX7_init_63 (by decide) ?_
  refine x_lv (lv' := [(0, aA v0), (1, aI v1)]) ⟨rfl, rfl, trivial⟩ ?_
  obtain ⟨e1, e2, g0, h⟩ := h
  refine x_newI (N := 40) (by decide) ⟨by decide, by decide⟩ dX7_init_65 e1 e2 ⟨g0, trivial, trivial⟩ ⟨g0, trivial⟩ (fun q => ?_)
  replace hQ := hQ.up (q := q) e1.1
  generalize va_up ad _ q = ad at hQ ⊢
  refine x_nSA (n0 := n0) (fun S_65 hS_65 => ?_)
  replace h := h S_65 hS_65
  obtain ⟨h1, h⟩ := h
  refine x_p7_10 rfl rfl dX7_init_67 h1 (x_nSA (n0 := n0) (fun S_67 hS_67 => ?_))
  replace h := h S_67 hS_67
  refine x_aload_n dX7_init_70 rfl ?_
  refine x_bipush (v := 40) dX7_init_71 (by decide) ?_
  refine x_lv (lv' := [(0, aA v0), (1, aI v1)]) ⟨rfl, rfl, trivial⟩ ?_
  obtain ⟨e1, e2, g0, h⟩ := h
  refine x_newI (N := 40) (by decide) ⟨by decide, by decide⟩ dX7_init_73 e1 e2 ⟨g0, trivial, trivial⟩ ⟨g0, trivial⟩ (fun q => ?_)
  replace hQ := hQ.up (q := q) e1.1
  generalize va_up ad _ q = ad at hQ ⊢
  refine x_nSA (n0 := n0) (fun S_73 hS_73 => ?_)
  replace h := h S_73 hS_73
  obtain ⟨h1, h⟩ := h
  refine x_p7_11 rfl rfl dX7_init_75 h1 (x_nSA (n0 := n0) (fun S_75 hS_75 => ?_))
  replace h := h S_75 hS_75
  refine x_aload_n dX7_init_78 rfl ?_
  refine x_bipush (v := 40) dX7_init_79 (by decide) ?_
  refine x_lv (lv' := [(0, aA v0), (1, aI v1)]) ⟨rfl, rfl, trivial⟩ ?_
  obtain ⟨e1, e2, g0, h⟩ := h
  refine x_newI (N := 40) (by decide) ⟨by decide, by decide⟩ dX7_init_81 e1 e2 ⟨g0, trivial, trivial⟩ ⟨g0, trivial⟩ (fun q => ?_)
  replace hQ := hQ.up (q := q) e1.1
  generalize va_up ad _ q = ad at hQ ⊢
  refine x_nSA (n0 := n0) (fun S_81 hS_81 => ?_)
  replace h := h S_81 hS_81
  obtain ⟨h1, h⟩ := h
  refine x_p7_12 rfl rfl dX7_init_83 h1 (x_nSA (n0 := n0) (fun S_83 hS_83 => ?_))
  replace h := h S_83 hS_83
  refine x_aload_n dX7_init_86 rfl ?_
  refine x_bipush (v := 6) dX7_init_87 (by decide) ?_
  refine x_lv (lv' := [(0, aA v0), (1, aI v1)]) ⟨rfl, rfl, trivial⟩ ?_
  obtain ⟨e1, e2, g0, h⟩ := h
  refine x_newI (N := 6) (by decide) ⟨by decide, by decide⟩ dX7_init_89 e1 e2 ⟨g0, trivial, trivial⟩ ⟨g0, trivial⟩ (fun q => ?_)
  replace hQ := hQ.up (q := q) e1.1
  generalize va_up ad _ q = ad at hQ ⊢
  refine x_nSA (n0 := n0) (fun S_89 hS_89 => ?_)
  replace h := h S_89 hS_89
  obtain ⟨h1, h⟩ := h
  refine x_p7_14 rfl rfl dX7_init_91 h1 (x_nSA (n0 := n0) (fun S_91 hS_91 => ?_))
  replace h := h S_91 hS_91
  refine x_aload_n dX7_init_94 rfl ?_
  refine x_sipush (v := 180) dX7_init_95 (by decide) ?_
  refine x_lv (lv' := [(0, aA v0), (1, aI v1)]) ⟨rfl, rfl, trivial⟩ ?_
  obtain ⟨e1, e2, g0, h⟩ := h
  refine x_newJ (N := 180) (by decide) ⟨by decide, by decide⟩ dX7_init_98 e1 e2 ⟨g0, trivial, trivial⟩ ⟨g0, trivial⟩ (fun q => ?_)
  replace hQ := hQ.up (q := q) e1.1
  generalize va_up ad _ q = ad at hQ ⊢
  refine x_nSA (n0 := n0) (fun S_98 hS_98 => ?_)
  replace h := h S_98 hS_98
  obtain ⟨h1, h⟩ := h
  refine x_p7_15 rfl rfl dX7_init_100 h1 (x_nSA (n0 := n0) (fun S_100 hS_100 => ?_))
  replace h := h S_100 hS_100
  refine x_aload_n dX7_init_103 rfl ?_
  refine x_sipush (v := 180) dX7_init_104 (by decide) ?_
  refine x_lv (lv' := [(0, aA v0), (1, aI v1)]) ⟨rfl, rfl, trivial⟩ ?_
  obtain ⟨e1, e2, g0, h⟩ := h
  refine x_newJ (N := 180) (by decide) ⟨by decide, by decide⟩ dX7_init_107 e1 e2 ⟨g0, trivial, trivial⟩ ⟨g0, trivial⟩ (fun q => ?_)
  replace hQ := hQ.up (q := q) e1.1
  generalize va_up ad _ q = ad at hQ ⊢
  refine x_nSA (n0 := n0) (fun S_107 hS_107 => ?_)
  replace h := h S_107 hS_107
  obtain ⟨h1, h⟩ := h
  refine x_p7_16 rfl rfl dX7_init_109 h1 (x_nSA (n0 := n0) (fun S_109 hS_109 => ?_))
  replace h := h S_109 hS_109
  refine x_aload_n dX7_init_112 rfl ?_
  refine x_sipush (v := 180) dX7_init_113 (by decide) ?_
  refine x_lv (lv' := [(0, aA v0), (1, aI v1)]) ⟨rfl, rfl, trivial⟩ ?_
  obtain ⟨e1, e2, g0, h⟩ := h
  refine x_newJ (N := 180) (by decide) ⟨by decide, by decide⟩ dX7_init_116 e1 e2 ⟨g0, trivial, trivial⟩ ⟨g0, trivial⟩ (fun q => ?_)
  replace hQ := hQ.up (q := q) e1.1
  generalize va_up ad _ q = ad at hQ ⊢
  refine x_nSA (n0 := n0) (fun S_116 hS_116 => ?_)
  replace h := h S_116 hS_116
  obtain ⟨h1, h⟩ := h
  refine x_p7_17 rfl rfl dX7_init_118 h1 (x_nSA (n0 := n0) (fun S_118 hS_118 => ?_))
  replace h := h S_118 hS_118
  refine x_aload_n dX7_init_121 rfl ?_
  refine x_sipush (v := 1500) dX7_init_122 (by decide) ?_
  refine x_lv (lv' := [(0, aA v0), (1, aI v1)]) ⟨rfl, rfl, trivial⟩ ?_
  obtain ⟨e1, e2, g0, h⟩ := h
  refine x_newJ (N := 1500) (by decide) ⟨by decide, by decide⟩ dX7_init_125 e1 e2 ⟨g0, trivial, trivial⟩ ⟨g0, trivial⟩ (fun q => ?_)
  replace hQ := hQ.up (q := q) e1.1
  generalize va_up ad _ q = ad at hQ ⊢
  refine x_nSA (n0 := n0) (fun S_125 hS_125 => ?_)
  replace h := h S_125 hS_125
  obtain ⟨h1, h⟩ := h
  refine x_p7_19 rfl rfl dX7_init_127 h1 (x_nSA (n0 := n0) (fun S_127 hS_127 => ?_))
  replace h := h S_127 hS_127
  refine x_aload_n dX7_init_130 rfl ?_
  refine x_sipush (v := 1500) dX7_init_131 (by decide) ?_
  refine x_lv (lv' := [(0, aA v0), (1, aI v1)]) ⟨rfl, rfl, trivial⟩ ?_
  obtain ⟨e1, e2, g0, h⟩ := h
  refine x_newJ (N := 1500) (by decide) ⟨by decide, by decide⟩ dX7_init_134 e1 e2 ⟨g0, trivial, trivial⟩ ⟨g0, trivial⟩ (fun q => ?_)
  replace hQ := hQ.up (q := q) e1.1
  generalize va_up ad _ q = ad at hQ ⊢
  refine x_nSA (n0 := n0) (fun S_134 hS_134 => ?_)
  replace h := h S_134 hS_134
  obtain ⟨h1, h⟩ := h
  refine x_p7_21 rfl rfl dX7_init_136 h1 (x_nSA (n0 := n0) (fun S_136 hS_136 => ?_))
  replace h := h S_136 hS_136
  refine x_aload_n dX7_init_139 rfl ?_
  refine x_sipush (v := 128) dX7_init_140 (by decide) ?_
  refine x_lv (lv' := [(0, aA v0), (1, aI v1)]) ⟨rfl, rfl, trivial⟩ ?_
  obtain ⟨e1, e2, g0, h⟩ := h
  refine x_newJ (N := 128) (by decide) ⟨by decide, by decide⟩ dX7_init_143 e1 e2 ⟨g0, trivial, trivial⟩ ⟨g0, trivial⟩ (fun q => ?_)
  replace hQ := hQ.up (q := q) e1.1
  generalize va_up ad _ q = ad at hQ ⊢
  refine x_nSA (n0 := n0) (fun S_143 hS_143 => ?_)
  replace h := h S_143 hS_143
  obtain ⟨h1, h⟩ := h
  refine x_p7_23 rfl rfl dX7_init_145 h1 (x_nSA (n0 := n0) (fun S_145 hS_145 => ?_))
  replace h := h S_145 hS_145
  refine x_aload_n dX7_init_148 rfl ?_
  refine x_sipush (v := 128) dX7_init_149 (by decide) ?_
  refine x_lv (lv' := [(0, aA v0), (1, aI v1)]) ⟨rfl, rfl, trivial⟩ ?_
  obtain ⟨e1, e2, g0, h⟩ := h
  refine x_newJ (N := 128) (by decide) ⟨by decide, by decide⟩ dX7_init_152 e1 e2 ⟨g0, trivial, trivial⟩ ⟨g0, trivial⟩ (fun q => ?_)
  replace hQ := hQ.up (q := q) e1.1
  generalize va_up ad _ q = ad at hQ ⊢
  refine x_nSA (n0 := n0) (fun S_152 hS_152 => ?_)
  replace h := h S_152 hS_152
  obtain ⟨h1, h⟩ := h
  refine x_p7_24 rfl rfl dX7_init_154 h1 (x_nSA (n0 := n0) (fun S_154 hS_154 => ?_))
  replace h := h S_154 hS_154
  refine x_aload_n dX7_init_157 rfl ?_
  refine x_sipush (v := 128) dX7_init_158 (by decide) ?_
  refine x_lv (lv' := [(0, aA v0), (1, aI v1)]) ⟨rfl, rfl, trivial⟩ ?_
  obtain ⟨e1, e2, g0, h⟩ := h
  refine x_newI (N := 128) (by decide) ⟨by decide, by decide⟩ dX7_init_161 e1 e2 ⟨g0, trivial, trivial⟩ ⟨g0, trivial⟩ (fun q => ?_)
  replace hQ := hQ.up (q := q) e1.1
  generalize va_up ad _ q = ad at hQ ⊢
  refine x_nSA (n0 := n0) (fun S_161 hS_161 => ?_)
  replace h := h S_161 hS_161
  obtain ⟨h1, h⟩ := h
  refine x_p7_26 rfl rfl dX7_init_163 h1 (x_nSA (n0 := n0) (fun S_163 hS_163 => ?_))
  replace h := h S_163 hS_163
  refine x_aload_n dX7_init_166 rfl ?_
  refine x_sipush (v := 128) dX7_init_167 (by decide) ?_
  refine x_lv (lv' := [(0, aA v0), (1, aI v1)]) ⟨rfl, rfl, trivial⟩ ?_
  obtain ⟨e1, e2, g0, h⟩ := h
  refine x_newI (N := 128) (by decide) ⟨by decide, by decide⟩ dX7_init_170 e1 e2 ⟨g0, trivial, trivial⟩ ⟨g0, trivial⟩ (fun q => ?_)
  replace hQ := hQ.up (q := q) e1.1
  generalize va_up ad _ q = ad at hQ ⊢
  refine x_nSA (n0 := n0) (fun S_170 hS_170 => ?_)
  replace h := h S_170 hS_170
  obtain ⟨h1, h⟩ := h
  refine x_p7_27 rfl rfl dX7_init_172 h1 (x_nSA (n0 := n0) (fun S_172 hS_172 => ?_))
  replace h := h S_172 hS_172
  refine x_aload_n dX7_init_175 rfl ?_
  refine x_iload_n dX7_init_176 rfl ?_
  refine x_iconst (v := 1) dX7_init_177 (by decide) ?_
  refine x_icmp_ge (tgt := 185) dX7_init_178 (by decide) (fun c => ?_) (fun c => ?_)
  · replace h := h.1 c
    refine x_iload_n dX7_init_185 rfl ?_
    refine x_bipush (v := 12) dX7_init_186 (by decide) ?_
    refine x_icmp_le (tgt := 196) dX7_init_188 (by decide) (fun c => ?_) (fun c => ?_)
    · replace h := h.1 c
      refine x_iload_n dX7_init_196 rfl ?_
      refine x_lv (lv' := [(0, aA v0)]) ⟨rfl, trivial⟩ ?_
      exact xX7_init_197 hX  _ _ _ _ _ hQ h
    · replace h := h.2 c
      refine x_bipush (v := 12) dX7_init_191 (by decide) ?_
      refine x_goto (tgt := 197) dX7_init_193 (by decide) ?_
      refine x_lv (lv' := [(0, aA v0)]) ⟨rfl, trivial⟩ ?_
      exact xX7_init_197 hX  _ _ _ _ _ hQ h
  · replace h := h.2 c
    refine x_iconst (v := 1) dX7_init_181 (by decide) ?_
    refine x_goto (tgt := 197) dX7_init_182 (by decide) ?_
    refine x_lv (lv' := [(0, aA v0)]) ⟨rfl, trivial⟩ ?_
    exact xX7_init_197 hX  _ _ _ _ _ hQ h
theorem ctX7_init {G : Launch × va_G × (Nat → ClassId) × Nat} {v0 : Nat} {v1 : Int32} {S : hs} {Post : hs → Prop} (h : PX7_init v0 v1 S.1 S Post) : ctA G mX7_init [aA v0, aI v1] S Post := by
  refine ctA.of (by decide) (Nat.le_of_ble_eq_true rfl) (fun E ad hG hQ hX => ?_)
  subst hG
  exact xX7_init hX _ _ S ad hQ h
