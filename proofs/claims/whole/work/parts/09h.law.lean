theorem wl_0 : Cond.constantLong RL 27 (4294967295) ∈ lw_tbl := List.mem_append_right _ (List.mem_of_getElem? (i := 1031) (by decide +kernel))
theorem kcL_27 : Cond.constantLong RL 27 (4294967295) ∈ tbG := tbG_in wl_0 rfl
theorem wl_1 : Cond.methodLink RL 32 yX7_corner ∈ lw_tbl := List.mem_append_right _ (List.mem_of_getElem? (i := 830) (by decide +kernel))
theorem wl_2 : Cond.initialized "AreaCrossingsModel" ∈ lw_tbl := List.mem_append_right _ (List.mem_of_getElem? (i := 9) (by decide +kernel))
theorem wl_3 : Cond.code yX7_corner cX7_corner 7 (some .boolean) ∈ lw_tbl := List.mem_append_right _ (List.mem_of_getElem? (i := 833) (by decide +kernel))
theorem wl_4 : Cond.instanceMethod yX7_corner ∈ lw_tbl := List.mem_append_right _ (List.mem_of_getElem? (i := 831) (by decide +kernel))
theorem wl_5 : Cond.selects "AreaCrossingsModel" yX7_corner yX7_corner ∈ lw_tbl := List.mem_append_right _ (List.mem_of_getElem? (i := 832) (by decide +kernel))
theorem kL_32 : cokV RL mX7_corner 32 3 7 := ⟨⟨wl_1, wl_2, wl_3, by decide +kernel, by decide +kernel, by decide +kernel⟩, wl_4, wl_5, by decide +kernel, by decide⟩
theorem wl_6 : Cond.methodLink RL 33 yX7_thrown ∈ lw_tbl := List.mem_append_right _ (List.mem_of_getElem? (i := 826) (by decide +kernel))
theorem wl_7 : Cond.code yX7_thrown cX7_thrown 1 (some .int) ∈ lw_tbl := List.mem_append_right _ (List.mem_of_getElem? (i := 829) (by decide +kernel))
theorem wl_8 : Cond.instanceMethod yX7_thrown ∈ lw_tbl := List.mem_append_right _ (List.mem_of_getElem? (i := 827) (by decide +kernel))
theorem wl_9 : Cond.selects "AreaCrossingsModel" yX7_thrown yX7_thrown ∈ lw_tbl := List.mem_append_right _ (List.mem_of_getElem? (i := 828) (by decide +kernel))
theorem kL_33 : cokV RL mX7_thrown 33 0 7 := ⟨⟨wl_6, wl_2, wl_7, by decide +kernel, by decide +kernel, by decide +kernel⟩, wl_8, wl_9, by decide +kernel, by decide⟩
theorem wl_10 : Cond.methodLink RL 37 yX6_ring ∈ lw_tbl := List.mem_append_right _ (List.mem_of_getElem? (i := 195) (by decide +kernel))
theorem wl_11 : Cond.initialized "AreaCrossings" ∈ lw_tbl := List.mem_append_right _ (List.mem_of_getElem? (i := 1) (by decide +kernel))
theorem wl_12 : Cond.code yX6_ring cX6_ring 2 (some .boolean) ∈ lw_tbl := List.mem_append_right _ (List.mem_of_getElem? (i := 198) (by decide +kernel))
theorem wl_13 : Cond.instanceMethod yX6_ring ∈ lw_tbl := List.mem_append_right _ (List.mem_of_getElem? (i := 196) (by decide +kernel))
theorem wl_14 : Cond.selects "AreaCrossings" yX6_ring yX6_ring ∈ lw_tbl := List.mem_append_right _ (List.mem_of_getElem? (i := 197) (by decide +kernel))
theorem kL_37 : cokV RL mX6_ring 37 1 6 := ⟨⟨wl_10, wl_11, wl_12, by decide +kernel, by decide +kernel, by decide +kernel⟩, wl_13, wl_14, by decide +kernel, by decide⟩
theorem wl_15 : Cond.methodLink RL 41 yX7_ring ∈ lw_tbl := List.mem_append_right _ (List.mem_of_getElem? (i := 843) (by decide +kernel))
theorem wl_16 : Cond.code yX7_ring cX7_ring 5 (some .boolean) ∈ lw_tbl := List.mem_append_right _ (List.mem_of_getElem? (i := 846) (by decide +kernel))
theorem wl_17 : Cond.instanceMethod yX7_ring ∈ lw_tbl := List.mem_append_right _ (List.mem_of_getElem? (i := 844) (by decide +kernel))
theorem wl_18 : Cond.selects "AreaCrossingsModel" yX7_ring yX7_ring ∈ lw_tbl := List.mem_append_right _ (List.mem_of_getElem? (i := 845) (by decide +kernel))
theorem kL_41 : cokV RL mX7_ring 41 1 7 := ⟨⟨wl_15, wl_2, wl_16, by decide +kernel, by decide +kernel, by decide +kernel⟩, wl_17, wl_18, by decide +kernel, by decide⟩
theorem wl_19 : Cond.methodLink RL 42 yX6_hole ∈ lw_tbl := List.mem_append_right _ (List.mem_of_getElem? (i := 280) (by decide +kernel))
theorem wl_20 : Cond.code yX6_hole cX6_hole 2 (some .boolean) ∈ lw_tbl := List.mem_append_right _ (List.mem_of_getElem? (i := 283) (by decide +kernel))
theorem wl_21 : Cond.instanceMethod yX6_hole ∈ lw_tbl := List.mem_append_right _ (List.mem_of_getElem? (i := 281) (by decide +kernel))
theorem wl_22 : Cond.selects "AreaCrossings" yX6_hole yX6_hole ∈ lw_tbl := List.mem_append_right _ (List.mem_of_getElem? (i := 282) (by decide +kernel))
theorem kL_42 : cokV RL mX6_hole 42 1 6 := ⟨⟨wl_19, wl_11, wl_20, by decide +kernel, by decide +kernel, by decide +kernel⟩, wl_21, wl_22, by decide +kernel, by decide⟩
theorem wl_23 : Cond.methodLink RL 45 yX7_hole ∈ lw_tbl := List.mem_append_right _ (List.mem_of_getElem? (i := 890) (by decide +kernel))
theorem wl_24 : Cond.code yX7_hole cX7_hole 2 (some .boolean) ∈ lw_tbl := List.mem_append_right _ (List.mem_of_getElem? (i := 893) (by decide +kernel))
theorem wl_25 : Cond.instanceMethod yX7_hole ∈ lw_tbl := List.mem_append_right _ (List.mem_of_getElem? (i := 891) (by decide +kernel))
theorem wl_26 : Cond.selects "AreaCrossingsModel" yX7_hole yX7_hole ∈ lw_tbl := List.mem_append_right _ (List.mem_of_getElem? (i := 892) (by decide +kernel))
theorem kL_45 : cokV RL mX7_hole 45 1 7 := ⟨⟨wl_23, wl_2, wl_24, by decide +kernel, by decide +kernel, by decide +kernel⟩, wl_25, wl_26, by decide +kernel, by decide⟩
theorem wl_27 : Cond.methodLink RL 46 yX6_bars ∈ lw_tbl := List.mem_append_right _ (List.mem_of_getElem? (i := 288) (by decide +kernel))
theorem wl_28 : Cond.code yX6_bars cX6_bars 5 (some .boolean) ∈ lw_tbl := List.mem_append_right _ (List.mem_of_getElem? (i := 291) (by decide +kernel))
theorem wl_29 : Cond.instanceMethod yX6_bars ∈ lw_tbl := List.mem_append_right _ (List.mem_of_getElem? (i := 289) (by decide +kernel))
theorem wl_30 : Cond.selects "AreaCrossings" yX6_bars yX6_bars ∈ lw_tbl := List.mem_append_right _ (List.mem_of_getElem? (i := 290) (by decide +kernel))
theorem kL_46 : cokV RL mX6_bars 46 4 6 := ⟨⟨wl_27, wl_11, wl_28, by decide +kernel, by decide +kernel, by decide +kernel⟩, wl_29, wl_30, by decide +kernel, by decide⟩
theorem wl_31 : Cond.methodLink RL 50 yX7_bars ∈ lw_tbl := List.mem_append_right _ (List.mem_of_getElem? (i := 898) (by decide +kernel))
theorem wl_32 : Cond.code yX7_bars cX7_bars 5 (some .boolean) ∈ lw_tbl := List.mem_append_right _ (List.mem_of_getElem? (i := 901) (by decide +kernel))
theorem wl_33 : Cond.instanceMethod yX7_bars ∈ lw_tbl := List.mem_append_right _ (List.mem_of_getElem? (i := 899) (by decide +kernel))
theorem wl_34 : Cond.selects "AreaCrossingsModel" yX7_bars yX7_bars ∈ lw_tbl := List.mem_append_right _ (List.mem_of_getElem? (i := 900) (by decide +kernel))
theorem kL_50 : cokV RL mX7_bars 50 4 7 := ⟨⟨wl_31, wl_2, wl_32, by decide +kernel, by decide +kernel, by decide +kernel⟩, wl_33, wl_34, by decide +kernel, by decide⟩
theorem wl_35 : Cond.methodLink RL 51 yX6_speed ∈ lw_tbl := List.mem_append_right _ (List.mem_of_getElem? (i := 299) (by decide +kernel))
theorem wl_36 : Cond.code yX6_speed cX6_speed 4 (some .boolean) ∈ lw_tbl := List.mem_append_right _ (List.mem_of_getElem? (i := 302) (by decide +kernel))
theorem wl_37 : Cond.instanceMethod yX6_speed ∈ lw_tbl := List.mem_append_right _ (List.mem_of_getElem? (i := 300) (by decide +kernel))
theorem wl_38 : Cond.selects "AreaCrossings" yX6_speed yX6_speed ∈ lw_tbl := List.mem_append_right _ (List.mem_of_getElem? (i := 301) (by decide +kernel))
theorem kL_51 : cokV RL mX6_speed 51 2 6 := ⟨⟨wl_35, wl_11, wl_36, by decide +kernel, by decide +kernel, by decide +kernel⟩, wl_37, wl_38, by decide +kernel, by decide⟩
theorem wl_39 : Cond.methodLink RL 55 yX7_speed ∈ lw_tbl := List.mem_append_right _ (List.mem_of_getElem? (i := 908) (by decide +kernel))
theorem wl_40 : Cond.code yX7_speed cX7_speed 4 (some .boolean) ∈ lw_tbl := List.mem_append_right _ (List.mem_of_getElem? (i := 911) (by decide +kernel))
theorem wl_41 : Cond.instanceMethod yX7_speed ∈ lw_tbl := List.mem_append_right _ (List.mem_of_getElem? (i := 909) (by decide +kernel))
theorem wl_42 : Cond.selects "AreaCrossingsModel" yX7_speed yX7_speed ∈ lw_tbl := List.mem_append_right _ (List.mem_of_getElem? (i := 910) (by decide +kernel))
theorem kL_55 : cokV RL mX7_speed 55 2 7 := ⟨⟨wl_39, wl_2, wl_40, by decide +kernel, by decide +kernel, by decide +kernel⟩, wl_41, wl_42, by decide +kernel, by decide⟩
theorem wl_43 : Cond.methodLink RL 56 yX6_report ∈ lw_tbl := List.mem_append_right _ (List.mem_of_getElem? (i := 308) (by decide +kernel))
theorem wl_44 : Cond.code yX6_report cX6_report 10 (some .int) ∈ lw_tbl := List.mem_append_right _ (List.mem_of_getElem? (i := 311) (by decide +kernel))
theorem wl_45 : Cond.instanceMethod yX6_report ∈ lw_tbl := List.mem_append_right _ (List.mem_of_getElem? (i := 309) (by decide +kernel))
theorem wl_46 : Cond.selects "AreaCrossings" yX6_report yX6_report ∈ lw_tbl := List.mem_append_right _ (List.mem_of_getElem? (i := 310) (by decide +kernel))
theorem kL_56 : cokV RL mX6_report 56 4 6 := ⟨⟨wl_43, wl_11, wl_44, by decide +kernel, by decide +kernel, by decide +kernel⟩, wl_45, wl_46, by decide +kernel, by decide⟩
theorem wl_47 : Cond.methodLink RL 60 yX7_report ∈ lw_tbl := List.mem_append_right _ (List.mem_of_getElem? (i := 913) (by decide +kernel))
theorem wl_48 : Cond.code yX7_report cX7_report 12 (some .int) ∈ lw_tbl := List.mem_append_right _ (List.mem_of_getElem? (i := 916) (by decide +kernel))
theorem wl_49 : Cond.instanceMethod yX7_report ∈ lw_tbl := List.mem_append_right _ (List.mem_of_getElem? (i := 914) (by decide +kernel))
theorem wl_50 : Cond.selects "AreaCrossingsModel" yX7_report yX7_report ∈ lw_tbl := List.mem_append_right _ (List.mem_of_getElem? (i := 915) (by decide +kernel))
theorem kL_60 : cokV RL mX7_report 60 4 7 := ⟨⟨wl_47, wl_2, wl_48, by decide +kernel, by decide +kernel, by decide +kernel⟩, wl_49, wl_50, by decide +kernel, by decide⟩
theorem wl_51 : Cond.methodLink RL 61 yX6_track ∈ lw_tbl := List.mem_append_right _ (List.mem_of_getElem? (i := 345) (by decide +kernel))
theorem wl_52 : Cond.code yX6_track cX6_track 1 (some .int) ∈ lw_tbl := List.mem_append_right _ (List.mem_of_getElem? (i := 348) (by decide +kernel))
theorem wl_53 : Cond.instanceMethod yX6_track ∈ lw_tbl := List.mem_append_right _ (List.mem_of_getElem? (i := 346) (by decide +kernel))
theorem wl_54 : Cond.selects "AreaCrossings" yX6_track yX6_track ∈ lw_tbl := List.mem_append_right _ (List.mem_of_getElem? (i := 347) (by decide +kernel))
theorem kL_61 : cokV RL mX6_track 61 0 6 := ⟨⟨wl_51, wl_11, wl_52, by decide +kernel, by decide +kernel, by decide +kernel⟩, wl_53, wl_54, by decide +kernel, by decide⟩
theorem wl_55 : Cond.methodLink RL 64 yX7_track ∈ lw_tbl := List.mem_append_right _ (List.mem_of_getElem? (i := 927) (by decide +kernel))
theorem wl_56 : Cond.code yX7_track cX7_track 1 (some .int) ∈ lw_tbl := List.mem_append_right _ (List.mem_of_getElem? (i := 930) (by decide +kernel))
theorem wl_57 : Cond.instanceMethod yX7_track ∈ lw_tbl := List.mem_append_right _ (List.mem_of_getElem? (i := 928) (by decide +kernel))
theorem wl_58 : Cond.selects "AreaCrossingsModel" yX7_track yX7_track ∈ lw_tbl := List.mem_append_right _ (List.mem_of_getElem? (i := 929) (by decide +kernel))
theorem kL_64 : cokV RL mX7_track 64 0 7 := ⟨⟨wl_55, wl_2, wl_56, by decide +kernel, by decide +kernel, by decide +kernel⟩, wl_57, wl_58, by decide +kernel, by decide⟩
theorem wl_59 : Cond.methodLink RL 65 yX6_place ∈ lw_tbl := List.mem_append_right _ (List.mem_of_getElem? (i := 349) (by decide +kernel))
theorem wl_60 : Cond.code yX6_place cX6_place 8 (some .boolean) ∈ lw_tbl := List.mem_append_right _ (List.mem_of_getElem? (i := 352) (by decide +kernel))
theorem wl_61 : Cond.instanceMethod yX6_place ∈ lw_tbl := List.mem_append_right _ (List.mem_of_getElem? (i := 350) (by decide +kernel))
theorem wl_62 : Cond.selects "AreaCrossings" yX6_place yX6_place ∈ lw_tbl := List.mem_append_right _ (List.mem_of_getElem? (i := 351) (by decide +kernel))
theorem kL_65 : cokV RL mX6_place 65 4 6 := ⟨⟨wl_59, wl_11, wl_60, by decide +kernel, by decide +kernel, by decide +kernel⟩, wl_61, wl_62, by decide +kernel, by decide⟩
theorem wl_63 : Cond.methodLink RL 69 yX7_place ∈ lw_tbl := List.mem_append_right _ (List.mem_of_getElem? (i := 931) (by decide +kernel))
theorem wl_64 : Cond.code yX7_place cX7_place 9 (some .boolean) ∈ lw_tbl := List.mem_append_right _ (List.mem_of_getElem? (i := 934) (by decide +kernel))
theorem wl_65 : Cond.instanceMethod yX7_place ∈ lw_tbl := List.mem_append_right _ (List.mem_of_getElem? (i := 932) (by decide +kernel))
theorem wl_66 : Cond.selects "AreaCrossingsModel" yX7_place yX7_place ∈ lw_tbl := List.mem_append_right _ (List.mem_of_getElem? (i := 933) (by decide +kernel))
theorem kL_69 : cokV RL mX7_place 69 4 7 := ⟨⟨wl_63, wl_2, wl_64, by decide +kernel, by decide +kernel, by decide +kernel⟩, wl_65, wl_66, by decide +kernel, by decide⟩
theorem wl_67 : Cond.methodLink RL 70 yX6_run ∈ lw_tbl := List.mem_append_right _ (List.mem_of_getElem? (i := 362) (by decide +kernel))
theorem wl_68 : Cond.code yX6_run cX6_run 6 (some .int) ∈ lw_tbl := List.mem_append_right _ (List.mem_of_getElem? (i := 365) (by decide +kernel))
theorem wl_69 : Cond.instanceMethod yX6_run ∈ lw_tbl := List.mem_append_right _ (List.mem_of_getElem? (i := 363) (by decide +kernel))
theorem wl_70 : Cond.selects "AreaCrossings" yX6_run yX6_run ∈ lw_tbl := List.mem_append_right _ (List.mem_of_getElem? (i := 364) (by decide +kernel))
theorem kL_70 : cokV RL mX6_run 70 2 6 := ⟨⟨wl_67, wl_11, wl_68, by decide +kernel, by decide +kernel, by decide +kernel⟩, wl_69, wl_70, by decide +kernel, by decide⟩
theorem wl_71 : Cond.methodLink RL 74 yX7_run ∈ lw_tbl := List.mem_append_right _ (List.mem_of_getElem? (i := 940) (by decide +kernel))
theorem wl_72 : Cond.code yX7_run cX7_run 5 (some .int) ∈ lw_tbl := List.mem_append_right _ (List.mem_of_getElem? (i := 943) (by decide +kernel))
theorem wl_73 : Cond.instanceMethod yX7_run ∈ lw_tbl := List.mem_append_right _ (List.mem_of_getElem? (i := 941) (by decide +kernel))
theorem wl_74 : Cond.selects "AreaCrossingsModel" yX7_run yX7_run ∈ lw_tbl := List.mem_append_right _ (List.mem_of_getElem? (i := 942) (by decide +kernel))
theorem kL_74 : cokV RL mX7_run 74 2 7 := ⟨⟨wl_71, wl_2, wl_72, by decide +kernel, by decide +kernel, by decide +kernel⟩, wl_73, wl_74, by decide +kernel, by decide⟩
theorem wl_75 : Cond.methodLink RL 75 yX6_entry ∈ lw_tbl := List.mem_append_right _ (List.mem_of_getElem? (i := 517) (by decide +kernel))
theorem wl_76 : Cond.code yX6_entry cX6_entry 3 (some .long) ∈ lw_tbl := List.mem_append_right _ (List.mem_of_getElem? (i := 520) (by decide +kernel))
theorem wl_77 : Cond.instanceMethod yX6_entry ∈ lw_tbl := List.mem_append_right _ (List.mem_of_getElem? (i := 518) (by decide +kernel))
theorem wl_78 : Cond.selects "AreaCrossings" yX6_entry yX6_entry ∈ lw_tbl := List.mem_append_right _ (List.mem_of_getElem? (i := 519) (by decide +kernel))
theorem kL_75 : cokV RL mX6_entry 75 2 6 := ⟨⟨wl_75, wl_11, wl_76, by decide +kernel, by decide +kernel, by decide +kernel⟩, wl_77, wl_78, by decide +kernel, by decide⟩
theorem wl_79 : Cond.methodLink RL 79 yX7_entry ∈ lw_tbl := List.mem_append_right _ (List.mem_of_getElem? (i := 986) (by decide +kernel))
theorem wl_80 : Cond.code yX7_entry cX7_entry 3 (some .long) ∈ lw_tbl := List.mem_append_right _ (List.mem_of_getElem? (i := 989) (by decide +kernel))
theorem wl_81 : Cond.instanceMethod yX7_entry ∈ lw_tbl := List.mem_append_right _ (List.mem_of_getElem? (i := 987) (by decide +kernel))
theorem wl_82 : Cond.selects "AreaCrossingsModel" yX7_entry yX7_entry ∈ lw_tbl := List.mem_append_right _ (List.mem_of_getElem? (i := 988) (by decide +kernel))
theorem kL_79 : cokV RL mX7_entry 79 2 7 := ⟨⟨wl_79, wl_2, wl_80, by decide +kernel, by decide +kernel, by decide +kernel⟩, wl_81, wl_82, by decide +kernel, by decide⟩
theorem wl_83 : Cond.methodLink RL 80 yX6_side ∈ lw_tbl := List.mem_append_right _ (List.mem_of_getElem? (i := 545) (by decide +kernel))
theorem wl_84 : Cond.code yX6_side cX6_side 2 (some .int) ∈ lw_tbl := List.mem_append_right _ (List.mem_of_getElem? (i := 548) (by decide +kernel))
theorem wl_85 : Cond.instanceMethod yX6_side ∈ lw_tbl := List.mem_append_right _ (List.mem_of_getElem? (i := 546) (by decide +kernel))
theorem wl_86 : Cond.selects "AreaCrossings" yX6_side yX6_side ∈ lw_tbl := List.mem_append_right _ (List.mem_of_getElem? (i := 547) (by decide +kernel))
theorem kL_80 : cokV RL mX6_side 80 1 6 := ⟨⟨wl_83, wl_11, wl_84, by decide +kernel, by decide +kernel, by decide +kernel⟩, wl_85, wl_86, by decide +kernel, by decide⟩
theorem wl_87 : Cond.methodLink RL 84 yX7_side ∈ lw_tbl := List.mem_append_right _ (List.mem_of_getElem? (i := 993) (by decide +kernel))
theorem wl_88 : Cond.code yX7_side cX7_side 2 (some .int) ∈ lw_tbl := List.mem_append_right _ (List.mem_of_getElem? (i := 996) (by decide +kernel))
theorem wl_89 : Cond.instanceMethod yX7_side ∈ lw_tbl := List.mem_append_right _ (List.mem_of_getElem? (i := 994) (by decide +kernel))
theorem wl_90 : Cond.selects "AreaCrossingsModel" yX7_side yX7_side ∈ lw_tbl := List.mem_append_right _ (List.mem_of_getElem? (i := 995) (by decide +kernel))
theorem kL_84 : cokV RL mX7_side 84 1 7 := ⟨⟨wl_87, wl_2, wl_88, by decide +kernel, by decide +kernel, by decide +kernel⟩, wl_89, wl_90, by decide +kernel, by decide⟩
theorem wl_91 : Cond.methodLink RL 85 yX6_inside ∈ lw_tbl := List.mem_append_right _ (List.mem_of_getElem? (i := 553) (by decide +kernel))
theorem wl_92 : Cond.code yX6_inside cX6_inside 8 (some .long) ∈ lw_tbl := List.mem_append_right _ (List.mem_of_getElem? (i := 556) (by decide +kernel))
theorem wl_93 : Cond.instanceMethod yX6_inside ∈ lw_tbl := List.mem_append_right _ (List.mem_of_getElem? (i := 554) (by decide +kernel))
theorem wl_94 : Cond.selects "AreaCrossings" yX6_inside yX6_inside ∈ lw_tbl := List.mem_append_right _ (List.mem_of_getElem? (i := 555) (by decide +kernel))
theorem kL_85 : cokV RL mX6_inside 85 3 6 := ⟨⟨wl_91, wl_11, wl_92, by decide +kernel, by decide +kernel, by decide +kernel⟩, wl_93, wl_94, by decide +kernel, by decide⟩
theorem wl_95 : Cond.methodLink RL 89 yX7_inside ∈ lw_tbl := List.mem_append_right _ (List.mem_of_getElem? (i := 997) (by decide +kernel))
theorem wl_96 : Cond.code yX7_inside cX7_inside 7 (some .long) ∈ lw_tbl := List.mem_append_right _ (List.mem_of_getElem? (i := 1000) (by decide +kernel))
theorem wl_97 : Cond.instanceMethod yX7_inside ∈ lw_tbl := List.mem_append_right _ (List.mem_of_getElem? (i := 998) (by decide +kernel))
theorem wl_98 : Cond.selects "AreaCrossingsModel" yX7_inside yX7_inside ∈ lw_tbl := List.mem_append_right _ (List.mem_of_getElem? (i := 999) (by decide +kernel))
theorem kL_89 : cokV RL mX7_inside 89 3 7 := ⟨⟨wl_95, wl_2, wl_96, by decide +kernel, by decide +kernel, by decide +kernel⟩, wl_97, wl_98, by decide +kernel, by decide⟩
theorem wl_99 : Cond.methodLink RL 90 yX6_maybe ∈ lw_tbl := List.mem_append_right _ (List.mem_of_getElem? (i := 571) (by decide +kernel))
theorem wl_100 : Cond.code yX6_maybe cX6_maybe 5 (some .boolean) ∈ lw_tbl := List.mem_append_right _ (List.mem_of_getElem? (i := 574) (by decide +kernel))
theorem wl_101 : Cond.instanceMethod yX6_maybe ∈ lw_tbl := List.mem_append_right _ (List.mem_of_getElem? (i := 572) (by decide +kernel))
theorem wl_102 : Cond.selects "AreaCrossings" yX6_maybe yX6_maybe ∈ lw_tbl := List.mem_append_right _ (List.mem_of_getElem? (i := 573) (by decide +kernel))
theorem kL_90 : cokV RL mX6_maybe 90 2 6 := ⟨⟨wl_99, wl_11, wl_100, by decide +kernel, by decide +kernel, by decide +kernel⟩, wl_101, wl_102, by decide +kernel, by decide⟩
theorem wl_103 : Cond.methodLink RL 94 yX7_maybe ∈ lw_tbl := List.mem_append_right _ (List.mem_of_getElem? (i := 1006) (by decide +kernel))
theorem wl_104 : Cond.code yX7_maybe cX7_maybe 26 (some .boolean) ∈ lw_tbl := List.mem_append_right _ (List.mem_of_getElem? (i := 1009) (by decide +kernel))
theorem wl_105 : Cond.instanceMethod yX7_maybe ∈ lw_tbl := List.mem_append_right _ (List.mem_of_getElem? (i := 1007) (by decide +kernel))
theorem wl_106 : Cond.selects "AreaCrossingsModel" yX7_maybe yX7_maybe ∈ lw_tbl := List.mem_append_right _ (List.mem_of_getElem? (i := 1008) (by decide +kernel))
theorem kL_94 : cokV RL mX7_maybe 94 2 7 := ⟨⟨wl_103, wl_2, wl_104, by decide +kernel, by decide +kernel, by decide +kernel⟩, wl_105, wl_106, by decide +kernel, by decide⟩
theorem wl_107 : Cond.methodLink RL 95 yX6_buffer ∈ lw_tbl := List.mem_append_right _ (List.mem_of_getElem? (i := 608) (by decide +kernel))
theorem wl_108 : Cond.code yX6_buffer cX6_buffer 8 (some .int) ∈ lw_tbl := List.mem_append_right _ (List.mem_of_getElem? (i := 611) (by decide +kernel))
theorem wl_109 : Cond.instanceMethod yX6_buffer ∈ lw_tbl := List.mem_append_right _ (List.mem_of_getElem? (i := 609) (by decide +kernel))
theorem wl_110 : Cond.selects "AreaCrossings" yX6_buffer yX6_buffer ∈ lw_tbl := List.mem_append_right _ (List.mem_of_getElem? (i := 610) (by decide +kernel))
theorem kL_95 : cokV RL mX6_buffer 95 2 6 := ⟨⟨wl_107, wl_11, wl_108, by decide +kernel, by decide +kernel, by decide +kernel⟩, wl_109, wl_110, by decide +kernel, by decide⟩
theorem wl_111 : Cond.methodLink RL 99 yX7_buffer ∈ lw_tbl := List.mem_append_right _ (List.mem_of_getElem? (i := 1011) (by decide +kernel))
theorem wl_112 : Cond.code yX7_buffer cX7_buffer 7 (some .int) ∈ lw_tbl := List.mem_append_right _ (List.mem_of_getElem? (i := 1014) (by decide +kernel))
theorem wl_113 : Cond.instanceMethod yX7_buffer ∈ lw_tbl := List.mem_append_right _ (List.mem_of_getElem? (i := 1012) (by decide +kernel))
theorem wl_114 : Cond.selects "AreaCrossingsModel" yX7_buffer yX7_buffer ∈ lw_tbl := List.mem_append_right _ (List.mem_of_getElem? (i := 1013) (by decide +kernel))
theorem kL_99 : cokV RL mX7_buffer 99 2 7 := ⟨⟨wl_111, wl_2, wl_112, by decide +kernel, by decide +kernel, by decide +kernel⟩, wl_113, wl_114, by decide +kernel, by decide⟩
theorem wl_115 : Cond.methodLink RL 100 yX6_told ∈ lw_tbl := List.mem_append_right _ (List.mem_of_getElem? (i := 629) (by decide +kernel))
theorem wl_116 : Cond.code yX6_told cX6_told 4 (some .boolean) ∈ lw_tbl := List.mem_append_right _ (List.mem_of_getElem? (i := 632) (by decide +kernel))
theorem wl_117 : Cond.instanceMethod yX6_told ∈ lw_tbl := List.mem_append_right _ (List.mem_of_getElem? (i := 630) (by decide +kernel))
theorem wl_118 : Cond.selects "AreaCrossings" yX6_told yX6_told ∈ lw_tbl := List.mem_append_right _ (List.mem_of_getElem? (i := 631) (by decide +kernel))
theorem kL_100 : cokV RL mX6_told 100 2 6 := ⟨⟨wl_115, wl_11, wl_116, by decide +kernel, by decide +kernel, by decide +kernel⟩, wl_117, wl_118, by decide +kernel, by decide⟩
theorem wl_119 : Cond.methodLink RL 103 yX7_told ∈ lw_tbl := List.mem_append_right _ (List.mem_of_getElem? (i := 919) (by decide +kernel))
theorem wl_120 : Cond.code yX7_told cX7_told 4 (some .boolean) ∈ lw_tbl := List.mem_append_right _ (List.mem_of_getElem? (i := 922) (by decide +kernel))
theorem wl_121 : Cond.instanceMethod yX7_told ∈ lw_tbl := List.mem_append_right _ (List.mem_of_getElem? (i := 920) (by decide +kernel))
theorem wl_122 : Cond.selects "AreaCrossingsModel" yX7_told yX7_told ∈ lw_tbl := List.mem_append_right _ (List.mem_of_getElem? (i := 921) (by decide +kernel))
theorem kL_103 : cokV RL mX7_told 103 2 7 := ⟨⟨wl_119, wl_2, wl_120, by decide +kernel, by decide +kernel, by decide +kernel⟩, wl_121, wl_122, by decide +kernel, by decide⟩
theorem wl_123 : Cond.methodLink RL 104 yX6_overlap ∈ lw_tbl := List.mem_append_right _ (List.mem_of_getElem? (i := 637) (by decide +kernel))
theorem wl_124 : Cond.code yX6_overlap cX6_overlap 5 (some .int) ∈ lw_tbl := List.mem_append_right _ (List.mem_of_getElem? (i := 640) (by decide +kernel))
theorem wl_125 : Cond.instanceMethod yX6_overlap ∈ lw_tbl := List.mem_append_right _ (List.mem_of_getElem? (i := 638) (by decide +kernel))
theorem wl_126 : Cond.selects "AreaCrossings" yX6_overlap yX6_overlap ∈ lw_tbl := List.mem_append_right _ (List.mem_of_getElem? (i := 639) (by decide +kernel))
theorem kL_104 : cokV RL mX6_overlap 104 2 6 := ⟨⟨wl_123, wl_11, wl_124, by decide +kernel, by decide +kernel, by decide +kernel⟩, wl_125, wl_126, by decide +kernel, by decide⟩
theorem wl_127 : Cond.methodLink RL 107 yX7_overlap ∈ lw_tbl := List.mem_append_right _ (List.mem_of_getElem? (i := 1023) (by decide +kernel))
theorem wl_128 : Cond.code yX7_overlap cX7_overlap 5 (some .int) ∈ lw_tbl := List.mem_append_right _ (List.mem_of_getElem? (i := 1026) (by decide +kernel))
theorem wl_129 : Cond.instanceMethod yX7_overlap ∈ lw_tbl := List.mem_append_right _ (List.mem_of_getElem? (i := 1024) (by decide +kernel))
theorem wl_130 : Cond.selects "AreaCrossingsModel" yX7_overlap yX7_overlap ∈ lw_tbl := List.mem_append_right _ (List.mem_of_getElem? (i := 1025) (by decide +kernel))
theorem kL_107 : cokV RL mX7_overlap 107 2 7 := ⟨⟨wl_127, wl_2, wl_128, by decide +kernel, by decide +kernel, by decide +kernel⟩, wl_129, wl_130, by decide +kernel, by decide⟩
theorem wl_131 : Cond.methodLink RL 108 yX6_cell ∈ lw_tbl := List.mem_append_right _ (List.mem_of_getElem? (i := 649) (by decide +kernel))
theorem wl_132 : Cond.code yX6_cell cX6_cell 7 (some .int) ∈ lw_tbl := List.mem_append_right _ (List.mem_of_getElem? (i := 652) (by decide +kernel))
theorem wl_133 : Cond.instanceMethod yX6_cell ∈ lw_tbl := List.mem_append_right _ (List.mem_of_getElem? (i := 650) (by decide +kernel))
theorem wl_134 : Cond.selects "AreaCrossings" yX6_cell yX6_cell ∈ lw_tbl := List.mem_append_right _ (List.mem_of_getElem? (i := 651) (by decide +kernel))
theorem kL_108 : cokV RL mX6_cell 108 3 6 := ⟨⟨wl_131, wl_11, wl_132, by decide +kernel, by decide +kernel, by decide +kernel⟩, wl_133, wl_134, by decide +kernel, by decide⟩
theorem wl_135 : Cond.methodLink RL 111 yX7_cell ∈ lw_tbl := List.mem_append_right _ (List.mem_of_getElem? (i := 1027) (by decide +kernel))
theorem wl_136 : Cond.code yX7_cell cX7_cell 7 (some .int) ∈ lw_tbl := List.mem_append_right _ (List.mem_of_getElem? (i := 1030) (by decide +kernel))
theorem wl_137 : Cond.instanceMethod yX7_cell ∈ lw_tbl := List.mem_append_right _ (List.mem_of_getElem? (i := 1028) (by decide +kernel))
theorem wl_138 : Cond.selects "AreaCrossingsModel" yX7_cell yX7_cell ∈ lw_tbl := List.mem_append_right _ (List.mem_of_getElem? (i := 1029) (by decide +kernel))
theorem kL_111 : cokV RL mX7_cell 111 3 7 := ⟨⟨wl_135, wl_2, wl_136, by decide +kernel, by decide +kernel, by decide +kernel⟩, wl_137, wl_138, by decide +kernel, by decide⟩
theorem wl_139 : Cond.methodLink RX6 71 yX0_addCorner ∈ lw_tbl := List.mem_append_right _ (List.mem_of_getElem? (i := 731) (by decide +kernel))
theorem wl_140 : Cond.initialized "AreaCrossings$Area" ∈ lw_tbl := List.mem_append_right _ (List.mem_of_getElem? (i := 3) (by decide +kernel))
theorem wl_141 : Cond.code yX0_addCorner cX0_addCorner 4 (some .boolean) ∈ lw_tbl := List.mem_append_right _ (List.mem_of_getElem? (i := 734) (by decide +kernel))
theorem wl_142 : Cond.instanceMethod yX0_addCorner ∈ lw_tbl := List.mem_append_right _ (List.mem_of_getElem? (i := 732) (by decide +kernel))
theorem wl_143 : Cond.selects "AreaCrossings$Area" yX0_addCorner yX0_addCorner ∈ lw_tbl := List.mem_append_right _ (List.mem_of_getElem? (i := 733) (by decide +kernel))
theorem kX6_71 : cokV RX6 mX0_addCorner 71 2 0 := ⟨⟨wl_139, wl_140, wl_141, by decide +kernel, by decide +kernel, by decide +kernel⟩, wl_142, wl_143, by decide +kernel, by decide⟩
def PX6_corner_47 (Post : Int32 → hs → Prop)  (s0 : Int32) (S : hs) : Prop := ((s0 = 0 ∨ s0 = 1) ∧ Post s0 S)
def PX6_corner_46 (Post : Int32 → hs → Prop)   (S : hs) : Prop := (PX6_corner_47 Post  0 S)
def PX6_corner_16 (Post : Int32 → hs → Prop)  (v0 : Nat) (v1 : Int32) (v2 : Int64) (v4 : Int64) (S : hs) : Prop := (PX6_isPlace v2 v4 S  (fun x_19 S_19 => ((x_19 = 0 → (PX6_corner_46 Post   S_19)) ∧ (¬ x_19 = 0 → (is S_19 6 v0 ∧ ∃ r_26, hr S_19 v0 0 = some r_26 ∧ (ix S_19 11 r_26 v1 ∧ ∃ r_30, hr S_19 r_26 (Int32.toNatClampNeg v1) = some r_30 ∧ (is S_19 0 r_30 ∧ (PX0_addCorner r_30 (Int64.toInt32 v2) (Int64.toInt32 v4) S_19  (fun x_36 S_36 => ((x_36 = 0 → (PX6_corner_46 Post   S_36)) ∧ (¬ x_36 = 0 → (PX6_corner_47 Post  1 S_36))))))))))))
def PX6_corner (v0 : Nat) (v1 : Int32) (v2 : Int64) (v4 : Int64) (S : hs) (PostT : hs → Prop) (Post : Int32 → hs → Prop) : Prop := (is S 6 v0 ∧ ∃ r, hr S v0 0 = some r ∧ is S 11 r ∧ ((v1 < 0 ∨ nI (hz S r) ≤ v1 → PostT S) ∧ (¬ (v1 < 0 ∨ nI (hz S r) ≤ v1) → PX6_corner_16 Post v0 v1 v2 v4 S)))
def PL_corner (v0 : Nat) (v1 : Int32) (v2 v4 : Int64) (v6 : Nat) (S : hs) (Post : Int32 → hs → Prop) : Prop := (is S 6 v0 ∧ PX6_corner v0 v1 v2 v4 S (fun S1 => Post 1 S1) (fun x S1 => ((x = 0 → (ix S1 9 v6 0 ∧ ∀ S2, S2 = sJ S1 v6 (Int32.toNatClampNeg 0) 0 → Post 0 S2)) ∧ (¬ x = 0 → (ix S1 9 v6 0 ∧ ∀ S2, S2 = sJ S1 v6 (Int32.toNatClampNeg 0) 1 → Post 0 S2)))))
def PL_law_1241 (L : Nat) (xs : Nat → Int32) (K33 : Nat → Nat → Nat → Int32 → hs → Prop) (v1 : Nat) (v2 : Nat) (v3 : Nat) (v4 : Int32) (S : hs) : Prop := ∀ v4_1241 : Int32, v4_1241 = v4 + 8 → (K33 v1 v2 v3 v4_1241 S)
def PL_law_1160 (L : Nat) (xs : Nat → Int32) (K33 : Nat → Nat → Nat → Int32 → hs → Prop) (v1 : Nat) (v2 : Nat) (v3 : Nat) (v4 : Int32) (S : hs) : Prop := (vp_in (v4 + 1) L ∧ (vp_in (v4 + 2) L ∧ (vp_in (v4 + 3) L ∧ (vp_in (v4 + 4) L ∧ (is S 6 v1 ∧ (PX6_cell v1 (xs (Int32.toNatClampNeg (v4 + 1))) (xs (Int32.toNatClampNeg (v4 + 2))) (((Int32.toInt64 (xs (Int32.toNatClampNeg (v4 + 3)))) <<< (Int32.toInt64 32 &&& 63)) ||| ((Int32.toInt64 (xs (Int32.toNatClampNeg (v4 + 4)))) &&& 4294967295)) S  (fun x_1195 S_1195 => (vp_in (v4 + 1) L ∧ (vp_in (v4 + 2) L ∧ (vp_in (v4 + 3) L ∧ (vp_in (v4 + 4) L ∧ (is S_1195 7 v2 ∧ (PX7_cell v2 (xs (Int32.toNatClampNeg (v4 + 1))) (xs (Int32.toNatClampNeg (v4 + 2))) (((Int32.toInt64 (xs (Int32.toNatClampNeg (v4 + 3)))) <<< (Int32.toInt64 32 &&& 63)) ||| ((Int32.toInt64 (xs (Int32.toNatClampNeg (v4 + 4)))) &&& 4294967295)) S_1195  (fun x_1233 S_1233 => ((x_1195 = x_1233 → (PL_law_1241 L xs K33 v1 v2 v3 v4 S_1233)) ∧ (¬ x_1195 = x_1233 → False))))))))))))))))
def PL_law_1123 (L : Nat) (xs : Nat → Int32) (K33 : Nat → Nat → Nat → Int32 → hs → Prop) (v1 : Nat) (v2 : Nat) (v3 : Nat) (v4 : Int32) (S : hs) : Prop := (vp_in (v4 + 1) L ∧ (vp_in (v4 + 2) L ∧ (is S 6 v1 ∧ (PX6_overlap v1 (xs (Int32.toNatClampNeg (v4 + 1))) (xs (Int32.toNatClampNeg (v4 + 2))) S  (fun x_1136 S_1136 => (vp_in (v4 + 1) L ∧ (vp_in (v4 + 2) L ∧ (is S_1136 7 v2 ∧ (PX7_overlap v2 (xs (Int32.toNatClampNeg (v4 + 1))) (xs (Int32.toNatClampNeg (v4 + 2))) S_1136  (fun x_1152 S_1152 => ((x_1136 = x_1152 → (PL_law_1241 L xs K33 v1 v2 v3 v4 S_1152)) ∧ (¬ x_1136 = x_1152 → False))))))))))))
def PL_law_1054 (L : Nat) (xs : Nat → Int32) (K33 : Nat → Nat → Nat → Int32 → hs → Prop) (v1 : Nat) (v2 : Nat) (v3 : Nat) (v4 : Int32) (S : hs) : Prop := (vp_in (v4 + 1) L ∧ (vp_in (v4 + 2) L ∧ (vp_in (v4 + 3) L ∧ (is S 6 v1 ∧ (PX6_told v1 (xs (Int32.toNatClampNeg (v4 + 1))) (((Int32.toInt64 (xs (Int32.toNatClampNeg (v4 + 2)))) <<< (Int32.toInt64 32 &&& 63)) ||| ((Int32.toInt64 (xs (Int32.toNatClampNeg (v4 + 3)))) &&& 4294967295)) S  (fun x_1083 S_1083 => (vp_in (v4 + 1) L ∧ (vp_in (v4 + 2) L ∧ (vp_in (v4 + 3) L ∧ (is S_1083 7 v2 ∧ (PX7_told v2 (xs (Int32.toNatClampNeg (v4 + 1))) (((Int32.toInt64 (xs (Int32.toNatClampNeg (v4 + 2)))) <<< (Int32.toInt64 32 &&& 63)) ||| ((Int32.toInt64 (xs (Int32.toNatClampNeg (v4 + 3)))) &&& 4294967295)) S_1083  (fun x_1115 S_1115 => ((x_1083 = x_1115 → (PL_law_1241 L xs K33 v1 v2 v3 v4 S_1115)) ∧ (¬ x_1083 = x_1115 → False))))))))))))))
def PL_law_985 (L : Nat) (xs : Nat → Int32) (K33 : Nat → Nat → Nat → Int32 → hs → Prop) (v1 : Nat) (v2 : Nat) (v3 : Nat) (v4 : Int32) (S : hs) : Prop := (vp_in (v4 + 1) L ∧ (vp_in (v4 + 2) L ∧ (vp_in (v4 + 3) L ∧ (is S 6 v1 ∧ (PX6_buffer v1 (xs (Int32.toNatClampNeg (v4 + 1))) (((Int32.toInt64 (xs (Int32.toNatClampNeg (v4 + 2)))) <<< (Int32.toInt64 32 &&& 63)) ||| ((Int32.toInt64 (xs (Int32.toNatClampNeg (v4 + 3)))) &&& 4294967295)) S  (fun x_1014 S_1014 => (vp_in (v4 + 1) L ∧ (vp_in (v4 + 2) L ∧ (vp_in (v4 + 3) L ∧ (is S_1014 7 v2 ∧ (PX7_buffer v2 (xs (Int32.toNatClampNeg (v4 + 1))) (((Int32.toInt64 (xs (Int32.toNatClampNeg (v4 + 2)))) <<< (Int32.toInt64 32 &&& 63)) ||| ((Int32.toInt64 (xs (Int32.toNatClampNeg (v4 + 3)))) &&& 4294967295)) S_1014  (fun x_1046 S_1046 => ((x_1014 = x_1046 → (PL_law_1241 L xs K33 v1 v2 v3 v4 S_1046)) ∧ (¬ x_1014 = x_1046 → False))))))))))))))
def PL_law_948 (L : Nat) (xs : Nat → Int32) (K33 : Nat → Nat → Nat → Int32 → hs → Prop) (v1 : Nat) (v2 : Nat) (v3 : Nat) (v4 : Int32) (S : hs) : Prop := (vp_in (v4 + 1) L ∧ (vp_in (v4 + 2) L ∧ (is S 6 v1 ∧ (PX6_maybe v1 (xs (Int32.toNatClampNeg (v4 + 1))) (xs (Int32.toNatClampNeg (v4 + 2))) S  (fun x_961 S_961 => (vp_in (v4 + 1) L ∧ (vp_in (v4 + 2) L ∧ (is S_961 7 v2 ∧ (PX7_maybe v2 (xs (Int32.toNatClampNeg (v4 + 1))) (xs (Int32.toNatClampNeg (v4 + 2))) S_961  (fun x_977 S_977 => ((x_961 = x_977 → (PL_law_1241 L xs K33 v1 v2 v3 v4 S_977)) ∧ (¬ x_961 = x_977 → False))))))))))))
def PL_law_898 (L : Nat) (xs : Nat → Int32) (K33 : Nat → Nat → Nat → Int32 → hs → Prop) (v1 : Nat) (v2 : Nat) (v3 : Nat) (v4 : Int32) (S : hs) : Prop := (vp_in (v4 + 1) L ∧ (vp_in (v4 + 2) L ∧ (vp_in (v4 + 3) L ∧ (is S 6 v1 ∧ (PX6_inside v1 (xs (Int32.toNatClampNeg (v4 + 1))) (xs (Int32.toNatClampNeg (v4 + 2))) (xs (Int32.toNatClampNeg (v4 + 3))) S  (fun x_917 S_917 => (vp_in (v4 + 1) L ∧ (vp_in (v4 + 2) L ∧ (vp_in (v4 + 3) L ∧ (is S_917 7 v2 ∧ (PX7_inside v2 (xs (Int32.toNatClampNeg (v4 + 1))) (xs (Int32.toNatClampNeg (v4 + 2))) (xs (Int32.toNatClampNeg (v4 + 3))) S_917  (fun x_939 S_939 => ((x_917 = x_939 → (PL_law_1241 L xs K33 v1 v2 v3 v4 S_939)) ∧ (¬ x_917 = x_939 → False))))))))))))))
def PL_law_873 (L : Nat) (xs : Nat → Int32) (K33 : Nat → Nat → Nat → Int32 → hs → Prop) (v1 : Nat) (v2 : Nat) (v3 : Nat) (v4 : Int32) (S : hs) : Prop := (vp_in (v4 + 1) L ∧ (is S 6 v1 ∧ (PX6_side v1 (xs (Int32.toNatClampNeg (v4 + 1))) S  (fun x_880 S_880 => (vp_in (v4 + 1) L ∧ (is S_880 7 v2 ∧ (PX7_side v2 (xs (Int32.toNatClampNeg (v4 + 1))) S_880  (fun x_890 S_890 => ((x_880 = x_890 → (PL_law_1241 L xs K33 v1 v2 v3 v4 S_890)) ∧ (¬ x_880 = x_890 → False))))))))))
def PL_law_835 (L : Nat) (xs : Nat → Int32) (K33 : Nat → Nat → Nat → Int32 → hs → Prop) (v1 : Nat) (v2 : Nat) (v3 : Nat) (v4 : Int32) (S : hs) : Prop := (vp_in (v4 + 1) L ∧ (vp_in (v4 + 2) L ∧ (is S 6 v1 ∧ (PX6_entry v1 (xs (Int32.toNatClampNeg (v4 + 1))) (xs (Int32.toNatClampNeg (v4 + 2))) S  (fun x_848 S_848 => (vp_in (v4 + 1) L ∧ (vp_in (v4 + 2) L ∧ (is S_848 7 v2 ∧ (PX7_entry v2 (xs (Int32.toNatClampNeg (v4 + 1))) (xs (Int32.toNatClampNeg (v4 + 2))) S_848  (fun x_864 S_864 => ((x_848 = x_864 → (PL_law_1241 L xs K33 v1 v2 v3 v4 S_864)) ∧ (¬ x_848 = x_864 → False))))))))))))
def PL_law_798 (L : Nat) (xs : Nat → Int32) (K33 : Nat → Nat → Nat → Int32 → hs → Prop) (v1 : Nat) (v2 : Nat) (v3 : Nat) (v4 : Int32) (S : hs) : Prop := (vp_in (v4 + 1) L ∧ (vp_in (v4 + 2) L ∧ (is S 6 v1 ∧ (PX6_run v1 (xs (Int32.toNatClampNeg (v4 + 1))) (xs (Int32.toNatClampNeg (v4 + 2))) S  (fun x_811 S_811 => (vp_in (v4 + 1) L ∧ (vp_in (v4 + 2) L ∧ (is S_811 7 v2 ∧ (PX7_run v2 (xs (Int32.toNatClampNeg (v4 + 1))) (xs (Int32.toNatClampNeg (v4 + 2))) S_811  (fun x_827 S_827 => ((x_811 = x_827 → (PL_law_1241 L xs K33 v1 v2 v3 v4 S_827)) ∧ (¬ x_811 = x_827 → False))))))))))))
def PL_law_637 (L : Nat) (xs : Nat → Int32) (K33 : Nat → Nat → Nat → Int32 → hs → Prop) (v1 : Nat) (v2 : Nat) (v3 : Nat) (v4 : Int32) (S : hs) : Prop := (vp_in (v4 + 1) L ∧ (vp_in (v4 + 2) L ∧ (vp_in (v4 + 3) L ∧ (vp_in (v4 + 4) L ∧ (vp_in (v4 + 5) L ∧ (vp_in (v4 + 6) L ∧ (vp_in (v4 + 7) L ∧ (is S 6 v1 ∧ (PX6_place v1 (xs (Int32.toNatClampNeg (v4 + 1))) (((Int32.toInt64 (xs (Int32.toNatClampNeg (v4 + 2)))) <<< (Int32.toInt64 32 &&& 63)) ||| ((Int32.toInt64 (xs (Int32.toNatClampNeg (v4 + 3)))) &&& 4294967295)) (((Int32.toInt64 (xs (Int32.toNatClampNeg (v4 + 4)))) <<< (Int32.toInt64 32 &&& 63)) ||| ((Int32.toInt64 (xs (Int32.toNatClampNeg (v4 + 5)))) &&& 4294967295)) (((Int32.toInt64 (xs (Int32.toNatClampNeg (v4 + 6)))) <<< (Int32.toInt64 32 &&& 63)) ||| ((Int32.toInt64 (xs (Int32.toNatClampNeg (v4 + 7)))) &&& 4294967295)) S  (fun x_712 S_712 => (vp_in (v4 + 1) L ∧ (vp_in (v4 + 2) L ∧ (vp_in (v4 + 3) L ∧ (vp_in (v4 + 4) L ∧ (vp_in (v4 + 5) L ∧ (vp_in (v4 + 6) L ∧ (vp_in (v4 + 7) L ∧ (is S_712 7 v2 ∧ (PX7_place v2 (xs (Int32.toNatClampNeg (v4 + 1))) (((Int32.toInt64 (xs (Int32.toNatClampNeg (v4 + 2)))) <<< (Int32.toInt64 32 &&& 63)) ||| ((Int32.toInt64 (xs (Int32.toNatClampNeg (v4 + 3)))) &&& 4294967295)) (((Int32.toInt64 (xs (Int32.toNatClampNeg (v4 + 4)))) <<< (Int32.toInt64 32 &&& 63)) ||| ((Int32.toInt64 (xs (Int32.toNatClampNeg (v4 + 5)))) &&& 4294967295)) (((Int32.toInt64 (xs (Int32.toNatClampNeg (v4 + 6)))) <<< (Int32.toInt64 32 &&& 63)) ||| ((Int32.toInt64 (xs (Int32.toNatClampNeg (v4 + 7)))) &&& 4294967295)) S_712  (fun x_790 S_790 => ((x_712 = x_790 → (PL_law_1241 L xs K33 v1 v2 v3 v4 S_790)) ∧ (¬ x_712 = x_790 → False))))))))))))))))))))))
def PL_law_624 (L : Nat) (xs : Nat → Int32) (K33 : Nat → Nat → Nat → Int32 → hs → Prop) (v1 : Nat) (v2 : Nat) (v3 : Nat) (v4 : Int32) (S : hs) : Prop := (is S 6 v1 ∧ (PX6_track v1 S  (fun x_625 S_625 => (is S_625 7 v2 ∧ (PX7_track v2 S_625  (fun x_629 S_629 => ((x_625 = x_629 → (PL_law_1241 L xs K33 v1 v2 v3 v4 S_629)) ∧ (¬ x_625 = x_629 → False))))))))
def PL_law_463 (L : Nat) (xs : Nat → Int32) (K33 : Nat → Nat → Nat → Int32 → hs → Prop) (v1 : Nat) (v2 : Nat) (v3 : Nat) (v4 : Int32) (S : hs) : Prop := (vp_in (v4 + 1) L ∧ (vp_in (v4 + 2) L ∧ (vp_in (v4 + 3) L ∧ (vp_in (v4 + 4) L ∧ (vp_in (v4 + 5) L ∧ (vp_in (v4 + 6) L ∧ (vp_in (v4 + 7) L ∧ (is S 6 v1 ∧ (PX6_report v1 (((Int32.toInt64 (xs (Int32.toNatClampNeg (v4 + 1)))) <<< (Int32.toInt64 32 &&& 63)) ||| ((Int32.toInt64 (xs (Int32.toNatClampNeg (v4 + 2)))) &&& 4294967295)) (((Int32.toInt64 (xs (Int32.toNatClampNeg (v4 + 3)))) <<< (Int32.toInt64 32 &&& 63)) ||| ((Int32.toInt64 (xs (Int32.toNatClampNeg (v4 + 4)))) &&& 4294967295)) (((Int32.toInt64 (xs (Int32.toNatClampNeg (v4 + 5)))) <<< (Int32.toInt64 32 &&& 63)) ||| ((Int32.toInt64 (xs (Int32.toNatClampNeg (v4 + 6)))) &&& 4294967295)) (xs (Int32.toNatClampNeg (v4 + 7))) S  (fun x_538 S_538 => (vp_in (v4 + 1) L ∧ (vp_in (v4 + 2) L ∧ (vp_in (v4 + 3) L ∧ (vp_in (v4 + 4) L ∧ (vp_in (v4 + 5) L ∧ (vp_in (v4 + 6) L ∧ (vp_in (v4 + 7) L ∧ (is S_538 7 v2 ∧ (PX7_report v2 (((Int32.toInt64 (xs (Int32.toNatClampNeg (v4 + 1)))) <<< (Int32.toInt64 32 &&& 63)) ||| ((Int32.toInt64 (xs (Int32.toNatClampNeg (v4 + 2)))) &&& 4294967295)) (((Int32.toInt64 (xs (Int32.toNatClampNeg (v4 + 3)))) <<< (Int32.toInt64 32 &&& 63)) ||| ((Int32.toInt64 (xs (Int32.toNatClampNeg (v4 + 4)))) &&& 4294967295)) (((Int32.toInt64 (xs (Int32.toNatClampNeg (v4 + 5)))) <<< (Int32.toInt64 32 &&& 63)) ||| ((Int32.toInt64 (xs (Int32.toNatClampNeg (v4 + 6)))) &&& 4294967295)) (xs (Int32.toNatClampNeg (v4 + 7))) S_538  (fun x_616 S_616 => ((x_538 = x_616 → (PL_law_1241 L xs K33 v1 v2 v3 v4 S_616)) ∧ (¬ x_538 = x_616 → False))))))))))))))))))))))
def PL_law_394 (L : Nat) (xs : Nat → Int32) (K33 : Nat → Nat → Nat → Int32 → hs → Prop) (v1 : Nat) (v2 : Nat) (v3 : Nat) (v4 : Int32) (S : hs) : Prop := (vp_in (v4 + 1) L ∧ (vp_in (v4 + 2) L ∧ (vp_in (v4 + 3) L ∧ (is S 6 v1 ∧ (PX6_speed v1 (xs (Int32.toNatClampNeg (v4 + 1))) (((Int32.toInt64 (xs (Int32.toNatClampNeg (v4 + 2)))) <<< (Int32.toInt64 32 &&& 63)) ||| ((Int32.toInt64 (xs (Int32.toNatClampNeg (v4 + 3)))) &&& 4294967295)) S  (fun x_423 S_423 => (vp_in (v4 + 1) L ∧ (vp_in (v4 + 2) L ∧ (vp_in (v4 + 3) L ∧ (is S_423 7 v2 ∧ (PX7_speed v2 (xs (Int32.toNatClampNeg (v4 + 1))) (((Int32.toInt64 (xs (Int32.toNatClampNeg (v4 + 2)))) <<< (Int32.toInt64 32 &&& 63)) ||| ((Int32.toInt64 (xs (Int32.toNatClampNeg (v4 + 3)))) &&& 4294967295)) S_423  (fun x_455 S_455 => ((x_423 = x_455 → (PL_law_1241 L xs K33 v1 v2 v3 v4 S_455)) ∧ (¬ x_423 = x_455 → False))))))))))))))
def PL_law_333 (L : Nat) (xs : Nat → Int32) (K33 : Nat → Nat → Nat → Int32 → hs → Prop) (v1 : Nat) (v2 : Nat) (v3 : Nat) (v4 : Int32) (S : hs) : Prop := (vp_in (v4 + 1) L ∧ (vp_in (v4 + 2) L ∧ (vp_in (v4 + 3) L ∧ (vp_in (v4 + 4) L ∧ (is S 6 v1 ∧ (PX6_bars v1 (xs (Int32.toNatClampNeg (v4 + 1))) (xs (Int32.toNatClampNeg (v4 + 2))) (xs (Int32.toNatClampNeg (v4 + 3))) (xs (Int32.toNatClampNeg (v4 + 4))) S  (fun x_358 S_358 => (vp_in (v4 + 1) L ∧ (vp_in (v4 + 2) L ∧ (vp_in (v4 + 3) L ∧ (vp_in (v4 + 4) L ∧ (is S_358 7 v2 ∧ (PX7_bars v2 (xs (Int32.toNatClampNeg (v4 + 1))) (xs (Int32.toNatClampNeg (v4 + 2))) (xs (Int32.toNatClampNeg (v4 + 3))) (xs (Int32.toNatClampNeg (v4 + 4))) S_358  (fun x_386 S_386 => ((x_358 = x_386 → (PL_law_1241 L xs K33 v1 v2 v3 v4 S_386)) ∧ (¬ x_358 = x_386 → False))))))))))))))))
def PL_law_308 (L : Nat) (xs : Nat → Int32) (K33 : Nat → Nat → Nat → Int32 → hs → Prop) (v1 : Nat) (v2 : Nat) (v3 : Nat) (v4 : Int32) (S : hs) : Prop := (vp_in (v4 + 1) L ∧ (is S 6 v1 ∧ (PX6_hole v1 (xs (Int32.toNatClampNeg (v4 + 1))) S  (fun x_315 S_315 => (vp_in (v4 + 1) L ∧ (is S_315 7 v2 ∧ (PX7_hole v2 (xs (Int32.toNatClampNeg (v4 + 1))) S_315  (fun x_325 S_325 => ((x_315 = x_325 → (PL_law_1241 L xs K33 v1 v2 v3 v4 S_325)) ∧ (¬ x_315 = x_325 → False))))))))))
def PL_law_283 (L : Nat) (xs : Nat → Int32) (K33 : Nat → Nat → Nat → Int32 → hs → Prop) (v1 : Nat) (v2 : Nat) (v3 : Nat) (v4 : Int32) (S : hs) : Prop := (vp_in (v4 + 1) L ∧ (is S 6 v1 ∧ (PX6_ring v1 (xs (Int32.toNatClampNeg (v4 + 1))) S  (fun x_290 S_290 => (vp_in (v4 + 1) L ∧ (is S_290 7 v2 ∧ (PX7_ring v2 (xs (Int32.toNatClampNeg (v4 + 1))) S_290  (fun x_300 S_300 => ((x_290 = x_300 → (PL_law_1241 L xs K33 v1 v2 v3 v4 S_300)) ∧ (¬ x_290 = x_300 → False))))))))))
def PL_law_280 (L : Nat) (xs : Nat → Int32) (K33 : Nat → Nat → Nat → Int32 → hs → Prop) (v1 : Nat) (v2 : Nat) (v3 : Nat) (v4 : Int32) (S : hs) : Prop := (PL_law_1241 L xs K33 v1 v2 v3 v4 S)
def PL_law_274 (L : Nat) (xs : Nat → Int32) (K33 : Nat → Nat → Nat → Int32 → hs → Prop) (v1 : Nat) (v2 : Nat) (v3 : Nat) (v4 : Int32) (s0 : Int64) (s1 : Int64) (S : hs) : Prop := ((s0 = s1 → (PL_law_280 L xs K33 v1 v2 v3 v4 S)) ∧ (¬ s0 = s1 → False))
def PL_law_33 (L : Nat) (xs : Nat → Int32) : Nat → Nat → Nat → Nat → Int32 → hs → Prop
  | 0, _, _, _, _, _ => False
  | n + 1, v1, v2, v3, v4, S => (fun (K33 : Nat → Nat → Nat → Int32 → hs → Prop) => ((((nI L) - 8) < v4 → True) ∧ (¬ ((nI L) - 8) < v4 → (vp_in v4 L ∧ (((Int32.toInt ((xs (Int32.toNatClampNeg v4)) &&& 31)) = 0 → (vp_in (v4 + 1) L ∧ (vp_in (v4 + 2) L ∧ (vp_in (v4 + 3) L ∧ (vp_in (v4 + 4) L ∧ (vp_in (v4 + 5) L ∧ (PL_corner v1 (xs (Int32.toNatClampNeg (v4 + 1))) (((Int32.toInt64 (xs (Int32.toNatClampNeg (v4 + 2)))) <<< (Int32.toInt64 32 &&& 63)) ||| ((Int32.toInt64 (xs (Int32.toNatClampNeg (v4 + 3)))) &&& 4294967295)) (((Int32.toInt64 (xs (Int32.toNatClampNeg (v4 + 4)))) <<< (Int32.toInt64 32 &&& 63)) ||| ((Int32.toInt64 (xs (Int32.toNatClampNeg (v4 + 5)))) &&& 4294967295)) v3 S (fun x_184 S_184 => (vp_in (v4 + 1) L ∧ (vp_in (v4 + 2) L ∧ (vp_in (v4 + 3) L ∧ (vp_in (v4 + 4) L ∧ (vp_in (v4 + 5) L ∧ (is S_184 7 v2 ∧ (PX7_corner v2 (xs (Int32.toNatClampNeg (v4 + 1))) (((Int32.toInt64 (xs (Int32.toNatClampNeg (v4 + 2)))) <<< (Int32.toInt64 32 &&& 63)) ||| ((Int32.toInt64 (xs (Int32.toNatClampNeg (v4 + 3)))) &&& 4294967295)) (((Int32.toInt64 (xs (Int32.toNatClampNeg (v4 + 4)))) <<< (Int32.toInt64 32 &&& 63)) ||| ((Int32.toInt64 (xs (Int32.toNatClampNeg (v4 + 5)))) &&& 4294967295)) S_184  (fun x_240 S_240 => (is S_240 7 v2 ∧ (PX7_thrown v2 S_240  (fun x_246 S_246 => ((x_246 = x_184 → ((x_184 = 0 → (ix S_246 9 v3 0 ∧ ((x_240 = 0 → (PL_law_274 L xs K33 v1 v2 v3 v4 (hj S_246 v3 (Int32.toNatClampNeg 0)) 0 S_246)) ∧ (¬ x_240 = 0 → (PL_law_274 L xs K33 v1 v2 v3 v4 (hj S_246 v3 (Int32.toNatClampNeg 0)) 1 S_246))))) ∧ (¬ x_184 = 0 → (PL_law_280 L xs K33 v1 v2 v3 v4 S_246)))) ∧ (¬ x_246 = x_184 → False))))))))))))))))))))) ∧ ((Int32.toInt ((xs (Int32.toNatClampNeg v4)) &&& 31)) = 1 → (PL_law_283 L xs K33 v1 v2 v3 v4 S)) ∧ ((Int32.toInt ((xs (Int32.toNatClampNeg v4)) &&& 31)) = 2 → (PL_law_308 L xs K33 v1 v2 v3 v4 S)) ∧ ((Int32.toInt ((xs (Int32.toNatClampNeg v4)) &&& 31)) = 3 → (PL_law_333 L xs K33 v1 v2 v3 v4 S)) ∧ ((Int32.toInt ((xs (Int32.toNatClampNeg v4)) &&& 31)) = 4 → (PL_law_394 L xs K33 v1 v2 v3 v4 S)) ∧ ((Int32.toInt ((xs (Int32.toNatClampNeg v4)) &&& 31)) = 5 → (PL_law_463 L xs K33 v1 v2 v3 v4 S)) ∧ ((Int32.toInt ((xs (Int32.toNatClampNeg v4)) &&& 31)) = 6 → (PL_law_624 L xs K33 v1 v2 v3 v4 S)) ∧ ((Int32.toInt ((xs (Int32.toNatClampNeg v4)) &&& 31)) = 7 → (PL_law_637 L xs K33 v1 v2 v3 v4 S)) ∧ ((Int32.toInt ((xs (Int32.toNatClampNeg v4)) &&& 31)) = 8 → (PL_law_798 L xs K33 v1 v2 v3 v4 S)) ∧ ((Int32.toInt ((xs (Int32.toNatClampNeg v4)) &&& 31)) = 9 → (PL_law_835 L xs K33 v1 v2 v3 v4 S)) ∧ ((Int32.toInt ((xs (Int32.toNatClampNeg v4)) &&& 31)) = 10 → (PL_law_873 L xs K33 v1 v2 v3 v4 S)) ∧ ((Int32.toInt ((xs (Int32.toNatClampNeg v4)) &&& 31)) = 11 → (PL_law_898 L xs K33 v1 v2 v3 v4 S)) ∧ ((Int32.toInt ((xs (Int32.toNatClampNeg v4)) &&& 31)) = 12 → (PL_law_948 L xs K33 v1 v2 v3 v4 S)) ∧ ((Int32.toInt ((xs (Int32.toNatClampNeg v4)) &&& 31)) = 13 → (PL_law_985 L xs K33 v1 v2 v3 v4 S)) ∧ ((Int32.toInt ((xs (Int32.toNatClampNeg v4)) &&& 31)) = 14 → (PL_law_1054 L xs K33 v1 v2 v3 v4 S)) ∧ ((Int32.toInt ((xs (Int32.toNatClampNeg v4)) &&& 31)) = 15 → (PL_law_1123 L xs K33 v1 v2 v3 v4 S)) ∧ ((Int32.toInt ((xs (Int32.toNatClampNeg v4)) &&& 31)) = 16 → (PL_law_1160 L xs K33 v1 v2 v3 v4 S)) ∧ ((Int32.toInt ((xs (Int32.toNatClampNeg v4)) &&& 31)) < 0 ∨ 16 < (Int32.toInt ((xs (Int32.toNatClampNeg v4)) &&& 31)) → (PL_law_1241 L xs K33 v1 v2 v3 v4 S))))))) (PL_law_33 L xs n)
set_option maxRecDepth 100000 in
set_option maxHeartbeats 4000000 in
theorem xL_law_1241 {E : en} {ad : Nat → Nat} {L : Nat} {xs : Nat → Int32} {N : Nat} {K33 : Nat → Nat → Nat → Int32 → hs → Prop} (hL : lawE E ad L xs) (hK33 : ∀ (v1 v2 v3 : Nat) (v4 : Int32) (S : hs) (n1 n2 : Nat), n1 + N ≤ 601024 → n2 + 6 * N ≤ 7293000 → K33 v1 v2 v3 v4 S → X E mL_law n1 n2 ad S 33 [(0, aA SC), (1, aA v1), (2, aA v2), (3, aA v3), (4, aI v4)] []) (v1 : Nat) (v2 : Nat) (v3 : Nat) (v4 : Int32) (S : hs) (n1 n2 : Nat) (hc1 : n1 + N ≤ 601024) (hc2 : n2 + 6 * N ≤ 7293000) (h : PL_law_1241 L xs K33 v1 v2 v3 v4 S) : X E mL_law n1 n2 ad S 1241 [(0, aA SC), (1, aA v1), (2, aA v2), (3, aA v3), (4, aI v4)] [] := by
  have hf : n1 ≤ mL_law.2.2.2.1.cells ∧ n2 ≤ mL_law.2.2.2.1.slots := ⟨show n1 ≤ 601024 by omega, show n2 ≤ 7293000 by omega⟩
  unfold PL_law_1241 at h
  obtain ⟨v4_1241, hv4_1241⟩ : ∃ y : Int32, y = v4 + 8 := ⟨_, rfl⟩
  replace h := h v4_1241 hv4_1241
  refine x_iinc (v := v4_1241) dL_law_1241 rfl (by rw [hv4_1241]; rfl) (by decide) rfl ?_
  refine x_goto (tgt := 33) dL_law_1244 (by decide) ?_
  refine x_lv (lv' := [(0, aA SC), (1, aA v1), (2, aA v2), (3, aA v3), (4, aI v4_1241)]) ⟨rfl, rfl, rfl, rfl, rfl, trivial⟩ ?_
  exact hK33 _ _ _ _ _ _ _ (by omega) (by omega) h
set_option maxRecDepth 100000 in
set_option maxHeartbeats 4000000 in
theorem xL_law_1160 {E : en} {ad : Nat → Nat} {L : Nat} {xs : Nat → Int32} {N : Nat} {K33 : Nat → Nat → Nat → Int32 → hs → Prop} (hL : lawE E ad L xs) (hK33 : ∀ (v1 v2 v3 : Nat) (v4 : Int32) (S : hs) (n1 n2 : Nat), n1 + N ≤ 601024 → n2 + 6 * N ≤ 7293000 → K33 v1 v2 v3 v4 S → X E mL_law n1 n2 ad S 33 [(0, aA SC), (1, aA v1), (2, aA v2), (3, aA v3), (4, aI v4)] []) (v1 : Nat) (v2 : Nat) (v3 : Nat) (v4 : Int32) (S : hs) (n1 n2 : Nat) (hc1 : n1 + N ≤ 601024) (hc2 : n2 + 6 * N ≤ 7293000) (h : PL_law_1160 L xs K33 v1 v2 v3 v4 S) : X E mL_law n1 n2 ad S 1160 [(0, aA SC), (1, aA v1), (2, aA v2), (3, aA v3), (4, aI v4)] [] := by
  have hf : n1 ≤ mL_law.2.2.2.1.cells ∧ n2 ≤ mL_law.2.2.2.1.slots := ⟨show n1 ≤ 601024 by omega, show n2 ≤ 7293000 by omega⟩
  unfold PL_law_1160 at h
  refine x_aload_n dL_law_1160 rfl ?_
  refine x_aload_n dL_law_1161 rfl ?_
  refine x_iload dL_law_1162 rfl ?_
  refine x_iconst (v := 1) dL_law_1164 (by decide) ?_
  refine x_iadd dL_law_1165 ?_
  refine x_sld hL.2.2 dL_law_1166 h.1 ?_
  replace h := h.2
  refine x_aload_n dL_law_1167 rfl ?_
  refine x_iload dL_law_1168 rfl ?_
  refine x_iconst (v := 2) dL_law_1170 (by decide) ?_
  refine x_iadd dL_law_1171 ?_
  refine x_sld hL.2.2 dL_law_1172 h.1 ?_
  replace h := h.2
  refine x_aload_n dL_law_1173 rfl ?_
  refine x_iload dL_law_1174 rfl ?_
  refine x_iconst (v := 3) dL_law_1176 (by decide) ?_
  refine x_iadd dL_law_1177 ?_
  refine x_sld hL.2.2 dL_law_1178 h.1 ?_
  replace h := h.2
  refine x_i2l dL_law_1179 ?_
  refine x_bipush (v := 32) dL_law_1180 (by decide) ?_
  refine x_lshl dL_law_1182 ?_
  refine x_aload_n dL_law_1183 rfl ?_
  refine x_iload dL_law_1184 rfl ?_
  refine x_iconst (v := 4) dL_law_1186 (by decide) ?_
  refine x_iadd dL_law_1187 ?_
  refine x_sld hL.2.2 dL_law_1188 h.1 ?_
  replace h := h.2
  refine x_i2l dL_law_1189 ?_
  refine x_ldc2 (v := 4294967295) dL_law_1190 kcL_27 ?_
  refine x_land dL_law_1193 ?_
  refine x_lor dL_law_1194 ?_
  obtain ⟨h1, h⟩ := h
  refine x_callVI (As := [aI (xs (Int32.toNatClampNeg (v4 + 1))), aI (xs (Int32.toNatClampNeg (v4 + 2))), aJ (((Int32.toInt64 (xs (Int32.toNatClampNeg (v4 + 3)))) <<< (Int32.toInt64 32 &&& 63)) ||| ((Int32.toInt64 (xs (Int32.toNatClampNeg (v4 + 4)))) &&& 4294967295))]) (st := []) kL_108 rfl ⟨rfl, rfl, by decide, by decide⟩ dL_law_1195 rfl (Nat.le_of_ble_eq_true rfl) hf h1 (ctX6_cell h) (fun x_1195 S_1195 h => ?_)
  refine x_aload_n dL_law_1198 rfl ?_
  refine x_aload_n dL_law_1199 rfl ?_
  refine x_iload dL_law_1200 rfl ?_
  refine x_iconst (v := 1) dL_law_1202 (by decide) ?_
  refine x_iadd dL_law_1203 ?_
  refine x_sld hL.2.2 dL_law_1204 h.1 ?_
  replace h := h.2
  refine x_aload_n dL_law_1205 rfl ?_
  refine x_iload dL_law_1206 rfl ?_
  refine x_iconst (v := 2) dL_law_1208 (by decide) ?_
  refine x_iadd dL_law_1209 ?_
  refine x_sld hL.2.2 dL_law_1210 h.1 ?_
  replace h := h.2
  refine x_aload_n dL_law_1211 rfl ?_
  refine x_iload dL_law_1212 rfl ?_
  refine x_iconst (v := 3) dL_law_1214 (by decide) ?_
  refine x_iadd dL_law_1215 ?_
  refine x_sld hL.2.2 dL_law_1216 h.1 ?_
  replace h := h.2
  refine x_i2l dL_law_1217 ?_
  refine x_bipush (v := 32) dL_law_1218 (by decide) ?_
  refine x_lshl dL_law_1220 ?_
  refine x_aload_n dL_law_1221 rfl ?_
  refine x_iload dL_law_1222 rfl ?_
  refine x_iconst (v := 4) dL_law_1224 (by decide) ?_
  refine x_iadd dL_law_1225 ?_
  refine x_sld hL.2.2 dL_law_1226 h.1 ?_
  replace h := h.2
  refine x_i2l dL_law_1227 ?_
  refine x_ldc2 (v := 4294967295) dL_law_1228 kcL_27 ?_
  refine x_land dL_law_1231 ?_
  refine x_lor dL_law_1232 ?_
  obtain ⟨h1, h⟩ := h
  refine x_callVI (As := [aI (xs (Int32.toNatClampNeg (v4 + 1))), aI (xs (Int32.toNatClampNeg (v4 + 2))), aJ (((Int32.toInt64 (xs (Int32.toNatClampNeg (v4 + 3)))) <<< (Int32.toInt64 32 &&& 63)) ||| ((Int32.toInt64 (xs (Int32.toNatClampNeg (v4 + 4)))) &&& 4294967295))]) (st := [aI x_1195]) kL_111 rfl ⟨rfl, rfl, by decide, by decide⟩ dL_law_1233 rfl (Nat.le_of_ble_eq_true rfl) hf h1 (ctX7_cell h) (fun x_1233 S_1233 h => ?_)
  refine x_icmp_eq (tgt := 1241) dL_law_1236 (by decide) (fun c => ?_) (fun c => ?_)
  · replace h := h.1 c
    refine x_lv (lv' := [(0, aA SC), (1, aA v1), (2, aA v2), (3, aA v3), (4, aI v4)]) ⟨rfl, rfl, rfl, rfl, rfl, trivial⟩ ?_
    exact xL_law_1241 hL hK33 _ _ _ _ _ _ _ (by omega) (by omega) h
  · replace h := h.2 c
    refine x_iconst (v := 0) dL_law_1239 (by decide) ?_
    exact h.elim
set_option maxRecDepth 100000 in
set_option maxHeartbeats 4000000 in
theorem xL_law_1123 {E : en} {ad : Nat → Nat} {L : Nat} {xs : Nat → Int32} {N : Nat} {K33 : Nat → Nat → Nat → Int32 → hs → Prop} (hL : lawE E ad L xs) (hK33 : ∀ (v1 v2 v3 : Nat) (v4 : Int32) (S : hs) (n1 n2 : Nat), n1 + N ≤ 601024 → n2 + 6 * N ≤ 7293000 → K33 v1 v2 v3 v4 S → X E mL_law n1 n2 ad S 33 [(0, aA SC), (1, aA v1), (2, aA v2), (3, aA v3), (4, aI v4)] []) (v1 : Nat) (v2 : Nat) (v3 : Nat) (v4 : Int32) (S : hs) (n1 n2 : Nat) (hc1 : n1 + N ≤ 601024) (hc2 : n2 + 6 * N ≤ 7293000) (h : PL_law_1123 L xs K33 v1 v2 v3 v4 S) : X E mL_law n1 n2 ad S 1123 [(0, aA SC), (1, aA v1), (2, aA v2), (3, aA v3), (4, aI v4)] [] := by
  have hf : n1 ≤ mL_law.2.2.2.1.cells ∧ n2 ≤ mL_law.2.2.2.1.slots := ⟨show n1 ≤ 601024 by omega, show n2 ≤ 7293000 by omega⟩
  unfold PL_law_1123 at h
  refine x_aload_n dL_law_1123 rfl ?_
  refine x_aload_n dL_law_1124 rfl ?_
  refine x_iload dL_law_1125 rfl ?_
  refine x_iconst (v := 1) dL_law_1127 (by decide) ?_
  refine x_iadd dL_law_1128 ?_
  refine x_sld hL.2.2 dL_law_1129 h.1 ?_
  replace h := h.2
  refine x_aload_n dL_law_1130 rfl ?_
  refine x_iload dL_law_1131 rfl ?_
  refine x_iconst (v := 2) dL_law_1133 (by decide) ?_
  refine x_iadd dL_law_1134 ?_
  refine x_sld hL.2.2 dL_law_1135 h.1 ?_
  replace h := h.2
  obtain ⟨h1, h⟩ := h
  refine x_callVI (As := [aI (xs (Int32.toNatClampNeg (v4 + 1))), aI (xs (Int32.toNatClampNeg (v4 + 2)))]) (st := []) kL_104 rfl ⟨rfl, rfl, by decide, by decide⟩ dL_law_1136 rfl (Nat.le_of_ble_eq_true rfl) hf h1 (ctX6_overlap h) (fun x_1136 S_1136 h => ?_)
  refine x_aload_n dL_law_1139 rfl ?_
  refine x_aload_n dL_law_1140 rfl ?_
  refine x_iload dL_law_1141 rfl ?_
  refine x_iconst (v := 1) dL_law_1143 (by decide) ?_
  refine x_iadd dL_law_1144 ?_
  refine x_sld hL.2.2 dL_law_1145 h.1 ?_
  replace h := h.2
  refine x_aload_n dL_law_1146 rfl ?_
  refine x_iload dL_law_1147 rfl ?_
  refine x_iconst (v := 2) dL_law_1149 (by decide) ?_
  refine x_iadd dL_law_1150 ?_
  refine x_sld hL.2.2 dL_law_1151 h.1 ?_
  replace h := h.2
  obtain ⟨h1, h⟩ := h
  refine x_callVI (As := [aI (xs (Int32.toNatClampNeg (v4 + 1))), aI (xs (Int32.toNatClampNeg (v4 + 2)))]) (st := [aI x_1136]) kL_107 rfl ⟨rfl, rfl, by decide, by decide⟩ dL_law_1152 rfl (Nat.le_of_ble_eq_true rfl) hf h1 (ctX7_overlap h) (fun x_1152 S_1152 h => ?_)
  refine x_icmp_eq (tgt := 1241) dL_law_1155 (by decide) (fun c => ?_) (fun c => ?_)
  · replace h := h.1 c
    refine x_lv (lv' := [(0, aA SC), (1, aA v1), (2, aA v2), (3, aA v3), (4, aI v4)]) ⟨rfl, rfl, rfl, rfl, rfl, trivial⟩ ?_
    exact xL_law_1241 hL hK33 _ _ _ _ _ _ _ (by omega) (by omega) h
  · replace h := h.2 c
    refine x_iconst (v := 0) dL_law_1158 (by decide) ?_
    exact h.elim
set_option maxRecDepth 100000 in
set_option maxHeartbeats 4000000 in
theorem xL_law_1054 {E : en} {ad : Nat → Nat} {L : Nat} {xs : Nat → Int32} {N : Nat} {K33 : Nat → Nat → Nat → Int32 → hs → Prop} (hL : lawE E ad L xs) (hK33 : ∀ (v1 v2 v3 : Nat) (v4 : Int32) (S : hs) (n1 n2 : Nat), n1 + N ≤ 601024 → n2 + 6 * N ≤ 7293000 → K33 v1 v2 v3 v4 S → X E mL_law n1 n2 ad S 33 [(0, aA SC), (1, aA v1), (2, aA v2), (3, aA v3), (4, aI v4)] []) (v1 : Nat) (v2 : Nat) (v3 : Nat) (v4 : Int32) (S : hs) (n1 n2 : Nat) (hc1 : n1 + N ≤ 601024) (hc2 : n2 + 6 * N ≤ 7293000) (h : PL_law_1054 L xs K33 v1 v2 v3 v4 S) : X E mL_law n1 n2 ad S 1054 [(0, aA SC), (1, aA v1), (2, aA v2), (3, aA v3), (4, aI v4)] [] := by
  have hf : n1 ≤ mL_law.2.2.2.1.cells ∧ n2 ≤ mL_law.2.2.2.1.slots := ⟨show n1 ≤ 601024 by omega, show n2 ≤ 7293000 by omega⟩
  unfold PL_law_1054 at h
  refine x_aload_n dL_law_1054 rfl ?_
  refine x_aload_n dL_law_1055 rfl ?_
  refine x_iload dL_law_1056 rfl ?_
  refine x_iconst (v := 1) dL_law_1058 (by decide) ?_
  refine x_iadd dL_law_1059 ?_
  refine x_sld hL.2.2 dL_law_1060 h.1 ?_
  replace h := h.2
  refine x_aload_n dL_law_1061 rfl ?_
  refine x_iload dL_law_1062 rfl ?_
  refine x_iconst (v := 2) dL_law_1064 (by decide) ?_
  refine x_iadd dL_law_1065 ?_
  refine x_sld hL.2.2 dL_law_1066 h.1 ?_
  replace h := h.2
  refine x_i2l dL_law_1067 ?_
  refine x_bipush (v := 32) dL_law_1068 (by decide) ?_
  refine x_lshl dL_law_1070 ?_
  refine x_aload_n dL_law_1071 rfl ?_
  refine x_iload dL_law_1072 rfl ?_
  refine x_iconst (v := 3) dL_law_1074 (by decide) ?_
  refine x_iadd dL_law_1075 ?_
  refine x_sld hL.2.2 dL_law_1076 h.1 ?_
  replace h := h.2
  refine x_i2l dL_law_1077 ?_
  refine x_ldc2 (v := 4294967295) dL_law_1078 kcL_27 ?_
  refine x_land dL_law_1081 ?_
  refine x_lor dL_law_1082 ?_
  obtain ⟨h1, h⟩ := h
  refine x_callVI (As := [aI (xs (Int32.toNatClampNeg (v4 + 1))), aJ (((Int32.toInt64 (xs (Int32.toNatClampNeg (v4 + 2)))) <<< (Int32.toInt64 32 &&& 63)) ||| ((Int32.toInt64 (xs (Int32.toNatClampNeg (v4 + 3)))) &&& 4294967295))]) (st := []) kL_100 rfl ⟨rfl, rfl, by decide, by decide⟩ dL_law_1083 rfl (Nat.le_of_ble_eq_true rfl) hf h1 (ctX6_told h) (fun x_1083 S_1083 h => ?_)
  refine x_aload_n dL_law_1086 rfl ?_
  refine x_aload_n dL_law_1087 rfl ?_
  refine x_iload dL_law_1088 rfl ?_
  refine x_iconst (v := 1) dL_law_1090 (by decide) ?_
  refine x_iadd dL_law_1091 ?_
  refine x_sld hL.2.2 dL_law_1092 h.1 ?_
  replace h := h.2
  refine x_aload_n dL_law_1093 rfl ?_
  refine x_iload dL_law_1094 rfl ?_
  refine x_iconst (v := 2) dL_law_1096 (by decide) ?_
  refine x_iadd dL_law_1097 ?_
  refine x_sld hL.2.2 dL_law_1098 h.1 ?_
  replace h := h.2
  refine x_i2l dL_law_1099 ?_
  refine x_bipush (v := 32) dL_law_1100 (by decide) ?_
  refine x_lshl dL_law_1102 ?_
  refine x_aload_n dL_law_1103 rfl ?_
  refine x_iload dL_law_1104 rfl ?_
  refine x_iconst (v := 3) dL_law_1106 (by decide) ?_
  refine x_iadd dL_law_1107 ?_
  refine x_sld hL.2.2 dL_law_1108 h.1 ?_
  replace h := h.2
  refine x_i2l dL_law_1109 ?_
  refine x_ldc2 (v := 4294967295) dL_law_1110 kcL_27 ?_
  refine x_land dL_law_1113 ?_
  refine x_lor dL_law_1114 ?_
  obtain ⟨h1, h⟩ := h
  refine x_callVI (As := [aI (xs (Int32.toNatClampNeg (v4 + 1))), aJ (((Int32.toInt64 (xs (Int32.toNatClampNeg (v4 + 2)))) <<< (Int32.toInt64 32 &&& 63)) ||| ((Int32.toInt64 (xs (Int32.toNatClampNeg (v4 + 3)))) &&& 4294967295))]) (st := [aI x_1083]) kL_103 rfl ⟨rfl, rfl, by decide, by decide⟩ dL_law_1115 rfl (Nat.le_of_ble_eq_true rfl) hf h1 (ctX7_told h) (fun x_1115 S_1115 h => ?_)
  refine x_icmp_eq (tgt := 1241) dL_law_1118 (by decide) (fun c => ?_) (fun c => ?_)
  · replace h := h.1 c
    refine x_lv (lv' := [(0, aA SC), (1, aA v1), (2, aA v2), (3, aA v3), (4, aI v4)]) ⟨rfl, rfl, rfl, rfl, rfl, trivial⟩ ?_
    exact xL_law_1241 hL hK33 _ _ _ _ _ _ _ (by omega) (by omega) h
  · replace h := h.2 c
    refine x_iconst (v := 0) dL_law_1121 (by decide) ?_
    exact h.elim
set_option maxRecDepth 100000 in
set_option maxHeartbeats 4000000 in
theorem xL_law_985 {E : en} {ad : Nat → Nat} {L : Nat} {xs : Nat → Int32} {N : Nat} {K33 : Nat → Nat → Nat → Int32 → hs → Prop} (hL : lawE E ad L xs) (hK33 : ∀ (v1 v2 v3 : Nat) (v4 : Int32) (S : hs) (n1 n2 : Nat), n1 + N ≤ 601024 → n2 + 6 * N ≤ 7293000 → K33 v1 v2 v3 v4 S → X E mL_law n1 n2 ad S 33 [(0, aA SC), (1, aA v1), (2, aA v2), (3, aA v3), (4, aI v4)] []) (v1 : Nat) (v2 : Nat) (v3 : Nat) (v4 : Int32) (S : hs) (n1 n2 : Nat) (hc1 : n1 + N ≤ 601024) (hc2 : n2 + 6 * N ≤ 7293000) (h : PL_law_985 L xs K33 v1 v2 v3 v4 S) : X E mL_law n1 n2 ad S 985 [(0, aA SC), (1, aA v1), (2, aA v2), (3, aA v3), (4, aI v4)] [] := by
  have hf : n1 ≤ mL_law.2.2.2.1.cells ∧ n2 ≤ mL_law.2.2.2.1.slots := ⟨show n1 ≤ 601024 by omega, show n2 ≤ 7293000 by omega⟩
  unfold PL_law_985 at h
  refine x_aload_n dL_law_985 rfl ?_
  refine x_aload_n dL_law_986 rfl ?_
  refine x_iload dL_law_987 rfl ?_
  refine x_iconst (v := 1) dL_law_989 (by decide) ?_
  refine x_iadd dL_law_990 ?_
  refine x_sld hL.2.2 dL_law_991 h.1 ?_
  replace h := h.2
  refine x_aload_n dL_law_992 rfl ?_
  refine x_iload dL_law_993 rfl ?_
  refine x_iconst (v := 2) dL_law_995 (by decide) ?_
  refine x_iadd dL_law_996 ?_
  refine x_sld hL.2.2 dL_law_997 h.1 ?_
  replace h := h.2
  refine x_i2l dL_law_998 ?_
  refine x_bipush (v := 32) dL_law_999 (by decide) ?_
  refine x_lshl dL_law_1001 ?_
  refine x_aload_n dL_law_1002 rfl ?_
  refine x_iload dL_law_1003 rfl ?_
  refine x_iconst (v := 3) dL_law_1005 (by decide) ?_
  refine x_iadd dL_law_1006 ?_
  refine x_sld hL.2.2 dL_law_1007 h.1 ?_
  replace h := h.2
  refine x_i2l dL_law_1008 ?_
  refine x_ldc2 (v := 4294967295) dL_law_1009 kcL_27 ?_
  refine x_land dL_law_1012 ?_
  refine x_lor dL_law_1013 ?_
  obtain ⟨h1, h⟩ := h
  refine x_callVI (As := [aI (xs (Int32.toNatClampNeg (v4 + 1))), aJ (((Int32.toInt64 (xs (Int32.toNatClampNeg (v4 + 2)))) <<< (Int32.toInt64 32 &&& 63)) ||| ((Int32.toInt64 (xs (Int32.toNatClampNeg (v4 + 3)))) &&& 4294967295))]) (st := []) kL_95 rfl ⟨rfl, rfl, by decide, by decide⟩ dL_law_1014 rfl (Nat.le_of_ble_eq_true rfl) hf h1 (ctX6_buffer h) (fun x_1014 S_1014 h => ?_)
  refine x_aload_n dL_law_1017 rfl ?_
  refine x_aload_n dL_law_1018 rfl ?_
  refine x_iload dL_law_1019 rfl ?_
  refine x_iconst (v := 1) dL_law_1021 (by decide) ?_
  refine x_iadd dL_law_1022 ?_
  refine x_sld hL.2.2 dL_law_1023 h.1 ?_
  replace h := h.2
  refine x_aload_n dL_law_1024 rfl ?_
  refine x_iload dL_law_1025 rfl ?_
  refine x_iconst (v := 2) dL_law_1027 (by decide) ?_
  refine x_iadd dL_law_1028 ?_
  refine x_sld hL.2.2 dL_law_1029 h.1 ?_
  replace h := h.2
  refine x_i2l dL_law_1030 ?_
  refine x_bipush (v := 32) dL_law_1031 (by decide) ?_
  refine x_lshl dL_law_1033 ?_
  refine x_aload_n dL_law_1034 rfl ?_
  refine x_iload dL_law_1035 rfl ?_
  refine x_iconst (v := 3) dL_law_1037 (by decide) ?_
  refine x_iadd dL_law_1038 ?_
  refine x_sld hL.2.2 dL_law_1039 h.1 ?_
  replace h := h.2
  refine x_i2l dL_law_1040 ?_
  refine x_ldc2 (v := 4294967295) dL_law_1041 kcL_27 ?_
  refine x_land dL_law_1044 ?_
  refine x_lor dL_law_1045 ?_
  obtain ⟨h1, h⟩ := h
  refine x_callVI (As := [aI (xs (Int32.toNatClampNeg (v4 + 1))), aJ (((Int32.toInt64 (xs (Int32.toNatClampNeg (v4 + 2)))) <<< (Int32.toInt64 32 &&& 63)) ||| ((Int32.toInt64 (xs (Int32.toNatClampNeg (v4 + 3)))) &&& 4294967295))]) (st := [aI x_1014]) kL_99 rfl ⟨rfl, rfl, by decide, by decide⟩ dL_law_1046 rfl (Nat.le_of_ble_eq_true rfl) hf h1 (ctX7_buffer h) (fun x_1046 S_1046 h => ?_)
  refine x_icmp_eq (tgt := 1241) dL_law_1049 (by decide) (fun c => ?_) (fun c => ?_)
  · replace h := h.1 c
    refine x_lv (lv' := [(0, aA SC), (1, aA v1), (2, aA v2), (3, aA v3), (4, aI v4)]) ⟨rfl, rfl, rfl, rfl, rfl, trivial⟩ ?_
    exact xL_law_1241 hL hK33 _ _ _ _ _ _ _ (by omega) (by omega) h
  · replace h := h.2 c
    refine x_iconst (v := 0) dL_law_1052 (by decide) ?_
    exact h.elim
set_option maxRecDepth 100000 in
set_option maxHeartbeats 4000000 in
theorem xL_law_948 {E : en} {ad : Nat → Nat} {L : Nat} {xs : Nat → Int32} {N : Nat} {K33 : Nat → Nat → Nat → Int32 → hs → Prop} (hL : lawE E ad L xs) (hK33 : ∀ (v1 v2 v3 : Nat) (v4 : Int32) (S : hs) (n1 n2 : Nat), n1 + N ≤ 601024 → n2 + 6 * N ≤ 7293000 → K33 v1 v2 v3 v4 S → X E mL_law n1 n2 ad S 33 [(0, aA SC), (1, aA v1), (2, aA v2), (3, aA v3), (4, aI v4)] []) (v1 : Nat) (v2 : Nat) (v3 : Nat) (v4 : Int32) (S : hs) (n1 n2 : Nat) (hc1 : n1 + N ≤ 601024) (hc2 : n2 + 6 * N ≤ 7293000) (h : PL_law_948 L xs K33 v1 v2 v3 v4 S) : X E mL_law n1 n2 ad S 948 [(0, aA SC), (1, aA v1), (2, aA v2), (3, aA v3), (4, aI v4)] [] := by
  have hf : n1 ≤ mL_law.2.2.2.1.cells ∧ n2 ≤ mL_law.2.2.2.1.slots := ⟨show n1 ≤ 601024 by omega, show n2 ≤ 7293000 by omega⟩
  unfold PL_law_948 at h
  refine x_aload_n dL_law_948 rfl ?_
  refine x_aload_n dL_law_949 rfl ?_
  refine x_iload dL_law_950 rfl ?_
  refine x_iconst (v := 1) dL_law_952 (by decide) ?_
  refine x_iadd dL_law_953 ?_
  refine x_sld hL.2.2 dL_law_954 h.1 ?_
  replace h := h.2
  refine x_aload_n dL_law_955 rfl ?_
  refine x_iload dL_law_956 rfl ?_
  refine x_iconst (v := 2) dL_law_958 (by decide) ?_
  refine x_iadd dL_law_959 ?_
  refine x_sld hL.2.2 dL_law_960 h.1 ?_
  replace h := h.2
  obtain ⟨h1, h⟩ := h
  refine x_callVI (As := [aI (xs (Int32.toNatClampNeg (v4 + 1))), aI (xs (Int32.toNatClampNeg (v4 + 2)))]) (st := []) kL_90 rfl ⟨rfl, rfl, by decide, by decide⟩ dL_law_961 rfl (Nat.le_of_ble_eq_true rfl) hf h1 (ctX6_maybe h) (fun x_961 S_961 h => ?_)
  refine x_aload_n dL_law_964 rfl ?_
  refine x_aload_n dL_law_965 rfl ?_
  refine x_iload dL_law_966 rfl ?_
  refine x_iconst (v := 1) dL_law_968 (by decide) ?_
  refine x_iadd dL_law_969 ?_
  refine x_sld hL.2.2 dL_law_970 h.1 ?_
  replace h := h.2
  refine x_aload_n dL_law_971 rfl ?_
  refine x_iload dL_law_972 rfl ?_
  refine x_iconst (v := 2) dL_law_974 (by decide) ?_
  refine x_iadd dL_law_975 ?_
  refine x_sld hL.2.2 dL_law_976 h.1 ?_
  replace h := h.2
  obtain ⟨h1, h⟩ := h
  refine x_callVI (As := [aI (xs (Int32.toNatClampNeg (v4 + 1))), aI (xs (Int32.toNatClampNeg (v4 + 2)))]) (st := [aI x_961]) kL_94 rfl ⟨rfl, rfl, by decide, by decide⟩ dL_law_977 rfl (Nat.le_of_ble_eq_true rfl) hf h1 (ctX7_maybe h) (fun x_977 S_977 h => ?_)
  refine x_icmp_eq (tgt := 1241) dL_law_980 (by decide) (fun c => ?_) (fun c => ?_)
  · replace h := h.1 c
    refine x_lv (lv' := [(0, aA SC), (1, aA v1), (2, aA v2), (3, aA v3), (4, aI v4)]) ⟨rfl, rfl, rfl, rfl, rfl, trivial⟩ ?_
    exact xL_law_1241 hL hK33 _ _ _ _ _ _ _ (by omega) (by omega) h
  · replace h := h.2 c
    refine x_iconst (v := 0) dL_law_983 (by decide) ?_
    exact h.elim
set_option maxRecDepth 100000 in
set_option maxHeartbeats 4000000 in
theorem xL_law_898 {E : en} {ad : Nat → Nat} {L : Nat} {xs : Nat → Int32} {N : Nat} {K33 : Nat → Nat → Nat → Int32 → hs → Prop} (hL : lawE E ad L xs) (hK33 : ∀ (v1 v2 v3 : Nat) (v4 : Int32) (S : hs) (n1 n2 : Nat), n1 + N ≤ 601024 → n2 + 6 * N ≤ 7293000 → K33 v1 v2 v3 v4 S → X E mL_law n1 n2 ad S 33 [(0, aA SC), (1, aA v1), (2, aA v2), (3, aA v3), (4, aI v4)] []) (v1 : Nat) (v2 : Nat) (v3 : Nat) (v4 : Int32) (S : hs) (n1 n2 : Nat) (hc1 : n1 + N ≤ 601024) (hc2 : n2 + 6 * N ≤ 7293000) (h : PL_law_898 L xs K33 v1 v2 v3 v4 S) : X E mL_law n1 n2 ad S 898 [(0, aA SC), (1, aA v1), (2, aA v2), (3, aA v3), (4, aI v4)] [] := by
  have hf : n1 ≤ mL_law.2.2.2.1.cells ∧ n2 ≤ mL_law.2.2.2.1.slots := ⟨show n1 ≤ 601024 by omega, show n2 ≤ 7293000 by omega⟩
  unfold PL_law_898 at h
  refine x_aload_n dL_law_898 rfl ?_
  refine x_aload_n dL_law_899 rfl ?_
  refine x_iload dL_law_900 rfl ?_
  refine x_iconst (v := 1) dL_law_902 (by decide) ?_
  refine x_iadd dL_law_903 ?_
  refine x_sld hL.2.2 dL_law_904 h.1 ?_
  replace h := h.2
  refine x_aload_n dL_law_905 rfl ?_
  refine x_iload dL_law_906 rfl ?_
  refine x_iconst (v := 2) dL_law_908 (by decide) ?_
  refine x_iadd dL_law_909 ?_
  refine x_sld hL.2.2 dL_law_910 h.1 ?_
  replace h := h.2
  refine x_aload_n dL_law_911 rfl ?_
  refine x_iload dL_law_912 rfl ?_
  refine x_iconst (v := 3) dL_law_914 (by decide) ?_
  refine x_iadd dL_law_915 ?_
  refine x_sld hL.2.2 dL_law_916 h.1 ?_
  replace h := h.2
  obtain ⟨h1, h⟩ := h
  refine x_callVJ (As := [aI (xs (Int32.toNatClampNeg (v4 + 1))), aI (xs (Int32.toNatClampNeg (v4 + 2))), aI (xs (Int32.toNatClampNeg (v4 + 3)))]) (st := []) kL_85 rfl ⟨rfl, rfl, by decide, by decide⟩ dL_law_917 rfl (Nat.le_of_ble_eq_true rfl) hf h1 (ctX6_inside h) (fun x_917 S_917 h => ?_)
  refine x_aload_n dL_law_920 rfl ?_
  refine x_aload_n dL_law_921 rfl ?_
  refine x_iload dL_law_922 rfl ?_
  refine x_iconst (v := 1) dL_law_924 (by decide) ?_
  refine x_iadd dL_law_925 ?_
  refine x_sld hL.2.2 dL_law_926 h.1 ?_
  replace h := h.2
  refine x_aload_n dL_law_927 rfl ?_
  refine x_iload dL_law_928 rfl ?_
  refine x_iconst (v := 2) dL_law_930 (by decide) ?_
  refine x_iadd dL_law_931 ?_
  refine x_sld hL.2.2 dL_law_932 h.1 ?_
  replace h := h.2
  refine x_aload_n dL_law_933 rfl ?_
  refine x_iload dL_law_934 rfl ?_
  refine x_iconst (v := 3) dL_law_936 (by decide) ?_
  refine x_iadd dL_law_937 ?_
  refine x_sld hL.2.2 dL_law_938 h.1 ?_
  replace h := h.2
  obtain ⟨h1, h⟩ := h
  refine x_callVJ (As := [aI (xs (Int32.toNatClampNeg (v4 + 1))), aI (xs (Int32.toNatClampNeg (v4 + 2))), aI (xs (Int32.toNatClampNeg (v4 + 3)))]) (st := [aJ x_917]) kL_89 rfl ⟨rfl, rfl, by decide, by decide⟩ dL_law_939 rfl (Nat.le_of_ble_eq_true rfl) hf h1 (ctX7_inside h) (fun x_939 S_939 h => ?_)
  refine x_lcmp_eq (tgt := 1241) dL_law_942 dL_law_943 (by decide) (fun c => ?_) (fun c => ?_)
  · replace h := h.1 c
    refine x_lv (lv' := [(0, aA SC), (1, aA v1), (2, aA v2), (3, aA v3), (4, aI v4)]) ⟨rfl, rfl, rfl, rfl, rfl, trivial⟩ ?_
    exact xL_law_1241 hL hK33 _ _ _ _ _ _ _ (by omega) (by omega) h
  · replace h := h.2 c
    refine x_iconst (v := 0) dL_law_946 (by decide) ?_
    exact h.elim
set_option maxRecDepth 100000 in
set_option maxHeartbeats 4000000 in
theorem xL_law_873 {E : en} {ad : Nat → Nat} {L : Nat} {xs : Nat → Int32} {N : Nat} {K33 : Nat → Nat → Nat → Int32 → hs → Prop} (hL : lawE E ad L xs) (hK33 : ∀ (v1 v2 v3 : Nat) (v4 : Int32) (S : hs) (n1 n2 : Nat), n1 + N ≤ 601024 → n2 + 6 * N ≤ 7293000 → K33 v1 v2 v3 v4 S → X E mL_law n1 n2 ad S 33 [(0, aA SC), (1, aA v1), (2, aA v2), (3, aA v3), (4, aI v4)] []) (v1 : Nat) (v2 : Nat) (v3 : Nat) (v4 : Int32) (S : hs) (n1 n2 : Nat) (hc1 : n1 + N ≤ 601024) (hc2 : n2 + 6 * N ≤ 7293000) (h : PL_law_873 L xs K33 v1 v2 v3 v4 S) : X E mL_law n1 n2 ad S 873 [(0, aA SC), (1, aA v1), (2, aA v2), (3, aA v3), (4, aI v4)] [] := by
  have hf : n1 ≤ mL_law.2.2.2.1.cells ∧ n2 ≤ mL_law.2.2.2.1.slots := ⟨show n1 ≤ 601024 by omega, show n2 ≤ 7293000 by omega⟩
  unfold PL_law_873 at h
  refine x_aload_n dL_law_873 rfl ?_
  refine x_aload_n dL_law_874 rfl ?_
  refine x_iload dL_law_875 rfl ?_
  refine x_iconst (v := 1) dL_law_877 (by decide) ?_
  refine x_iadd dL_law_878 ?_
  refine x_sld hL.2.2 dL_law_879 h.1 ?_
  replace h := h.2
  obtain ⟨h1, h⟩ := h
  refine x_callVI (As := [aI (xs (Int32.toNatClampNeg (v4 + 1)))]) (st := []) kL_80 rfl ⟨rfl, rfl, by decide, by decide⟩ dL_law_880 rfl (Nat.le_of_ble_eq_true rfl) hf h1 (ctX6_side h) (fun x_880 S_880 h => ?_)
  refine x_aload_n dL_law_883 rfl ?_
  refine x_aload_n dL_law_884 rfl ?_
  refine x_iload dL_law_885 rfl ?_
  refine x_iconst (v := 1) dL_law_887 (by decide) ?_
  refine x_iadd dL_law_888 ?_
  refine x_sld hL.2.2 dL_law_889 h.1 ?_
  replace h := h.2
  obtain ⟨h1, h⟩ := h
  refine x_callVI (As := [aI (xs (Int32.toNatClampNeg (v4 + 1)))]) (st := [aI x_880]) kL_84 rfl ⟨rfl, rfl, by decide, by decide⟩ dL_law_890 rfl (Nat.le_of_ble_eq_true rfl) hf h1 (ctX7_side h) (fun x_890 S_890 h => ?_)
  refine x_icmp_eq (tgt := 1241) dL_law_893 (by decide) (fun c => ?_) (fun c => ?_)
  · replace h := h.1 c
    refine x_lv (lv' := [(0, aA SC), (1, aA v1), (2, aA v2), (3, aA v3), (4, aI v4)]) ⟨rfl, rfl, rfl, rfl, rfl, trivial⟩ ?_
    exact xL_law_1241 hL hK33 _ _ _ _ _ _ _ (by omega) (by omega) h
  · replace h := h.2 c
    refine x_iconst (v := 0) dL_law_896 (by decide) ?_
    exact h.elim
set_option maxRecDepth 100000 in
set_option maxHeartbeats 4000000 in
theorem xL_law_835 {E : en} {ad : Nat → Nat} {L : Nat} {xs : Nat → Int32} {N : Nat} {K33 : Nat → Nat → Nat → Int32 → hs → Prop} (hL : lawE E ad L xs) (hK33 : ∀ (v1 v2 v3 : Nat) (v4 : Int32) (S : hs) (n1 n2 : Nat), n1 + N ≤ 601024 → n2 + 6 * N ≤ 7293000 → K33 v1 v2 v3 v4 S → X E mL_law n1 n2 ad S 33 [(0, aA SC), (1, aA v1), (2, aA v2), (3, aA v3), (4, aI v4)] []) (v1 : Nat) (v2 : Nat) (v3 : Nat) (v4 : Int32) (S : hs) (n1 n2 : Nat) (hc1 : n1 + N ≤ 601024) (hc2 : n2 + 6 * N ≤ 7293000) (h : PL_law_835 L xs K33 v1 v2 v3 v4 S) : X E mL_law n1 n2 ad S 835 [(0, aA SC), (1, aA v1), (2, aA v2), (3, aA v3), (4, aI v4)] [] := by
  have hf : n1 ≤ mL_law.2.2.2.1.cells ∧ n2 ≤ mL_law.2.2.2.1.slots := ⟨show n1 ≤ 601024 by omega, show n2 ≤ 7293000 by omega⟩
  unfold PL_law_835 at h
  refine x_aload_n dL_law_835 rfl ?_
  refine x_aload_n dL_law_836 rfl ?_
  refine x_iload dL_law_837 rfl ?_
  refine x_iconst (v := 1) dL_law_839 (by decide) ?_
  refine x_iadd dL_law_840 ?_
  refine x_sld hL.2.2 dL_law_841 h.1 ?_
  replace h := h.2
  refine x_aload_n dL_law_842 rfl ?_
  refine x_iload dL_law_843 rfl ?_
  refine x_iconst (v := 2) dL_law_845 (by decide) ?_
  refine x_iadd dL_law_846 ?_
  refine x_sld hL.2.2 dL_law_847 h.1 ?_
  replace h := h.2
  obtain ⟨h1, h⟩ := h
  refine x_callVJ (As := [aI (xs (Int32.toNatClampNeg (v4 + 1))), aI (xs (Int32.toNatClampNeg (v4 + 2)))]) (st := []) kL_75 rfl ⟨rfl, rfl, by decide, by decide⟩ dL_law_848 rfl (Nat.le_of_ble_eq_true rfl) hf h1 (ctX6_entry h) (fun x_848 S_848 h => ?_)
  refine x_aload_n dL_law_851 rfl ?_
  refine x_aload_n dL_law_852 rfl ?_
  refine x_iload dL_law_853 rfl ?_
  refine x_iconst (v := 1) dL_law_855 (by decide) ?_
  refine x_iadd dL_law_856 ?_
  refine x_sld hL.2.2 dL_law_857 h.1 ?_
  replace h := h.2
  refine x_aload_n dL_law_858 rfl ?_
  refine x_iload dL_law_859 rfl ?_
  refine x_iconst (v := 2) dL_law_861 (by decide) ?_
  refine x_iadd dL_law_862 ?_
  refine x_sld hL.2.2 dL_law_863 h.1 ?_
  replace h := h.2
  obtain ⟨h1, h⟩ := h
  refine x_callVJ (As := [aI (xs (Int32.toNatClampNeg (v4 + 1))), aI (xs (Int32.toNatClampNeg (v4 + 2)))]) (st := [aJ x_848]) kL_79 rfl ⟨rfl, rfl, by decide, by decide⟩ dL_law_864 rfl (Nat.le_of_ble_eq_true rfl) hf h1 (ctX7_entry h) (fun x_864 S_864 h => ?_)
  refine x_lcmp_eq (tgt := 1241) dL_law_867 dL_law_868 (by decide) (fun c => ?_) (fun c => ?_)
  · replace h := h.1 c
    refine x_lv (lv' := [(0, aA SC), (1, aA v1), (2, aA v2), (3, aA v3), (4, aI v4)]) ⟨rfl, rfl, rfl, rfl, rfl, trivial⟩ ?_
    exact xL_law_1241 hL hK33 _ _ _ _ _ _ _ (by omega) (by omega) h
  · replace h := h.2 c
    refine x_iconst (v := 0) dL_law_871 (by decide) ?_
    exact h.elim
set_option maxRecDepth 100000 in
set_option maxHeartbeats 4000000 in
theorem xL_law_798 {E : en} {ad : Nat → Nat} {L : Nat} {xs : Nat → Int32} {N : Nat} {K33 : Nat → Nat → Nat → Int32 → hs → Prop} (hL : lawE E ad L xs) (hK33 : ∀ (v1 v2 v3 : Nat) (v4 : Int32) (S : hs) (n1 n2 : Nat), n1 + N ≤ 601024 → n2 + 6 * N ≤ 7293000 → K33 v1 v2 v3 v4 S → X E mL_law n1 n2 ad S 33 [(0, aA SC), (1, aA v1), (2, aA v2), (3, aA v3), (4, aI v4)] []) (v1 : Nat) (v2 : Nat) (v3 : Nat) (v4 : Int32) (S : hs) (n1 n2 : Nat) (hc1 : n1 + N ≤ 601024) (hc2 : n2 + 6 * N ≤ 7293000) (h : PL_law_798 L xs K33 v1 v2 v3 v4 S) : X E mL_law n1 n2 ad S 798 [(0, aA SC), (1, aA v1), (2, aA v2), (3, aA v3), (4, aI v4)] [] := by
  have hf : n1 ≤ mL_law.2.2.2.1.cells ∧ n2 ≤ mL_law.2.2.2.1.slots := ⟨show n1 ≤ 601024 by omega, show n2 ≤ 7293000 by omega⟩
  unfold PL_law_798 at h
  refine x_aload_n dL_law_798 rfl ?_
  refine x_aload_n dL_law_799 rfl ?_
  refine x_iload dL_law_800 rfl ?_
  refine x_iconst (v := 1) dL_law_802 (by decide) ?_
  refine x_iadd dL_law_803 ?_
  refine x_sld hL.2.2 dL_law_804 h.1 ?_
  replace h := h.2
  refine x_aload_n dL_law_805 rfl ?_
  refine x_iload dL_law_806 rfl ?_
  refine x_iconst (v := 2) dL_law_808 (by decide) ?_
  refine x_iadd dL_law_809 ?_
  refine x_sld hL.2.2 dL_law_810 h.1 ?_
  replace h := h.2
  obtain ⟨h1, h⟩ := h
  refine x_callVI (As := [aI (xs (Int32.toNatClampNeg (v4 + 1))), aI (xs (Int32.toNatClampNeg (v4 + 2)))]) (st := []) kL_70 rfl ⟨rfl, rfl, by decide, by decide⟩ dL_law_811 rfl (Nat.le_of_ble_eq_true rfl) hf h1 (ctX6_run h) (fun x_811 S_811 h => ?_)
  refine x_aload_n dL_law_814 rfl ?_
  refine x_aload_n dL_law_815 rfl ?_
  refine x_iload dL_law_816 rfl ?_
  refine x_iconst (v := 1) dL_law_818 (by decide) ?_
  refine x_iadd dL_law_819 ?_
  refine x_sld hL.2.2 dL_law_820 h.1 ?_
  replace h := h.2
  refine x_aload_n dL_law_821 rfl ?_
  refine x_iload dL_law_822 rfl ?_
  refine x_iconst (v := 2) dL_law_824 (by decide) ?_
  refine x_iadd dL_law_825 ?_
  refine x_sld hL.2.2 dL_law_826 h.1 ?_
  replace h := h.2
  obtain ⟨h1, h⟩ := h
  refine x_callVI (As := [aI (xs (Int32.toNatClampNeg (v4 + 1))), aI (xs (Int32.toNatClampNeg (v4 + 2)))]) (st := [aI x_811]) kL_74 rfl ⟨rfl, rfl, by decide, by decide⟩ dL_law_827 rfl (Nat.le_of_ble_eq_true rfl) hf h1 (ctX7_run h) (fun x_827 S_827 h => ?_)
  refine x_icmp_eq (tgt := 1241) dL_law_830 (by decide) (fun c => ?_) (fun c => ?_)
  · replace h := h.1 c
    refine x_lv (lv' := [(0, aA SC), (1, aA v1), (2, aA v2), (3, aA v3), (4, aI v4)]) ⟨rfl, rfl, rfl, rfl, rfl, trivial⟩ ?_
    exact xL_law_1241 hL hK33 _ _ _ _ _ _ _ (by omega) (by omega) h
  · replace h := h.2 c
    refine x_iconst (v := 0) dL_law_833 (by decide) ?_
    exact h.elim
set_option maxRecDepth 100000 in
set_option maxHeartbeats 4000000 in
theorem xL_law_637 {E : en} {ad : Nat → Nat} {L : Nat} {xs : Nat → Int32} {N : Nat} {K33 : Nat → Nat → Nat → Int32 → hs → Prop} (hL : lawE E ad L xs) (hK33 : ∀ (v1 v2 v3 : Nat) (v4 : Int32) (S : hs) (n1 n2 : Nat), n1 + N ≤ 601024 → n2 + 6 * N ≤ 7293000 → K33 v1 v2 v3 v4 S → X E mL_law n1 n2 ad S 33 [(0, aA SC), (1, aA v1), (2, aA v2), (3, aA v3), (4, aI v4)] []) (v1 : Nat) (v2 : Nat) (v3 : Nat) (v4 : Int32) (S : hs) (n1 n2 : Nat) (hc1 : n1 + N ≤ 601024) (hc2 : n2 + 6 * N ≤ 7293000) (h : PL_law_637 L xs K33 v1 v2 v3 v4 S) : X E mL_law n1 n2 ad S 637 [(0, aA SC), (1, aA v1), (2, aA v2), (3, aA v3), (4, aI v4)] [] := by
  have hf : n1 ≤ mL_law.2.2.2.1.cells ∧ n2 ≤ mL_law.2.2.2.1.slots := ⟨show n1 ≤ 601024 by omega, show n2 ≤ 7293000 by omega⟩
  unfold PL_law_637 at h
  refine x_aload_n dL_law_637 rfl ?_
  refine x_aload_n dL_law_638 rfl ?_
  refine x_iload dL_law_639 rfl ?_
  refine x_iconst (v := 1) dL_law_641 (by decide) ?_
  refine x_iadd dL_law_642 ?_
  refine x_sld hL.2.2 dL_law_643 h.1 ?_
  replace h := h.2
  refine x_aload_n dL_law_644 rfl ?_
  refine x_iload dL_law_645 rfl ?_
  refine x_iconst (v := 2) dL_law_647 (by decide) ?_
  refine x_iadd dL_law_648 ?_
  refine x_sld hL.2.2 dL_law_649 h.1 ?_
  replace h := h.2
  refine x_i2l dL_law_650 ?_
  refine x_bipush (v := 32) dL_law_651 (by decide) ?_
  refine x_lshl dL_law_653 ?_
  refine x_aload_n dL_law_654 rfl ?_
  refine x_iload dL_law_655 rfl ?_
  refine x_iconst (v := 3) dL_law_657 (by decide) ?_
  refine x_iadd dL_law_658 ?_
  refine x_sld hL.2.2 dL_law_659 h.1 ?_
  replace h := h.2
  refine x_i2l dL_law_660 ?_
  refine x_ldc2 (v := 4294967295) dL_law_661 kcL_27 ?_
  refine x_land dL_law_664 ?_
  refine x_lor dL_law_665 ?_
  refine x_aload_n dL_law_666 rfl ?_
  refine x_iload dL_law_667 rfl ?_
  refine x_iconst (v := 4) dL_law_669 (by decide) ?_
  refine x_iadd dL_law_670 ?_
  refine x_sld hL.2.2 dL_law_671 h.1 ?_
  replace h := h.2
  refine x_i2l dL_law_672 ?_
  refine x_bipush (v := 32) dL_law_673 (by decide) ?_
  refine x_lshl dL_law_675 ?_
  refine x_aload_n dL_law_676 rfl ?_
  refine x_iload dL_law_677 rfl ?_
  refine x_iconst (v := 5) dL_law_679 (by decide) ?_
  refine x_iadd dL_law_680 ?_
  refine x_sld hL.2.2 dL_law_681 h.1 ?_
  replace h := h.2
  refine x_i2l dL_law_682 ?_
  refine x_ldc2 (v := 4294967295) dL_law_683 kcL_27 ?_
  refine x_land dL_law_686 ?_
  refine x_lor dL_law_687 ?_
  refine x_aload_n dL_law_688 rfl ?_
  refine x_iload dL_law_689 rfl ?_
  refine x_bipush (v := 6) dL_law_691 (by decide) ?_
  refine x_iadd dL_law_693 ?_
  refine x_sld hL.2.2 dL_law_694 h.1 ?_
  replace h := h.2
  refine x_i2l dL_law_695 ?_
  refine x_bipush (v := 32) dL_law_696 (by decide) ?_
  refine x_lshl dL_law_698 ?_
  refine x_aload_n dL_law_699 rfl ?_
  refine x_iload dL_law_700 rfl ?_
  refine x_bipush (v := 7) dL_law_702 (by decide) ?_
  refine x_iadd dL_law_704 ?_
  refine x_sld hL.2.2 dL_law_705 h.1 ?_
  replace h := h.2
  refine x_i2l dL_law_706 ?_
  refine x_ldc2 (v := 4294967295) dL_law_707 kcL_27 ?_
  refine x_land dL_law_710 ?_
  refine x_lor dL_law_711 ?_
  obtain ⟨h1, h⟩ := h
  refine x_callVI (As := [aI (xs (Int32.toNatClampNeg (v4 + 1))), aJ (((Int32.toInt64 (xs (Int32.toNatClampNeg (v4 + 2)))) <<< (Int32.toInt64 32 &&& 63)) ||| ((Int32.toInt64 (xs (Int32.toNatClampNeg (v4 + 3)))) &&& 4294967295)), aJ (((Int32.toInt64 (xs (Int32.toNatClampNeg (v4 + 4)))) <<< (Int32.toInt64 32 &&& 63)) ||| ((Int32.toInt64 (xs (Int32.toNatClampNeg (v4 + 5)))) &&& 4294967295)), aJ (((Int32.toInt64 (xs (Int32.toNatClampNeg (v4 + 6)))) <<< (Int32.toInt64 32 &&& 63)) ||| ((Int32.toInt64 (xs (Int32.toNatClampNeg (v4 + 7)))) &&& 4294967295))]) (st := []) kL_65 rfl ⟨rfl, rfl, by decide, by decide⟩ dL_law_712 rfl (Nat.le_of_ble_eq_true rfl) hf h1 (ctX6_place h) (fun x_712 S_712 h => ?_)
  refine x_aload_n dL_law_715 rfl ?_
  refine x_aload_n dL_law_716 rfl ?_
  refine x_iload dL_law_717 rfl ?_
  refine x_iconst (v := 1) dL_law_719 (by decide) ?_
  refine x_iadd dL_law_720 ?_
  refine x_sld hL.2.2 dL_law_721 h.1 ?_
  replace h := h.2
  refine x_aload_n dL_law_722 rfl ?_
  refine x_iload dL_law_723 rfl ?_
  refine x_iconst (v := 2) dL_law_725 (by decide) ?_
  refine x_iadd dL_law_726 ?_
  refine x_sld hL.2.2 dL_law_727 h.1 ?_
  replace h := h.2
  refine x_i2l dL_law_728 ?_
  refine x_bipush (v := 32) dL_law_729 (by decide) ?_
  refine x_lshl dL_law_731 ?_
  refine x_aload_n dL_law_732 rfl ?_
  refine x_iload dL_law_733 rfl ?_
  refine x_iconst (v := 3) dL_law_735 (by decide) ?_
  refine x_iadd dL_law_736 ?_
  refine x_sld hL.2.2 dL_law_737 h.1 ?_
  replace h := h.2
  refine x_i2l dL_law_738 ?_
  refine x_ldc2 (v := 4294967295) dL_law_739 kcL_27 ?_
  refine x_land dL_law_742 ?_
  refine x_lor dL_law_743 ?_
  refine x_aload_n dL_law_744 rfl ?_
  refine x_iload dL_law_745 rfl ?_
  refine x_iconst (v := 4) dL_law_747 (by decide) ?_
  refine x_iadd dL_law_748 ?_
  refine x_sld hL.2.2 dL_law_749 h.1 ?_
  replace h := h.2
  refine x_i2l dL_law_750 ?_
  refine x_bipush (v := 32) dL_law_751 (by decide) ?_
  refine x_lshl dL_law_753 ?_
  refine x_aload_n dL_law_754 rfl ?_
  refine x_iload dL_law_755 rfl ?_
  refine x_iconst (v := 5) dL_law_757 (by decide) ?_
  refine x_iadd dL_law_758 ?_
  refine x_sld hL.2.2 dL_law_759 h.1 ?_
  replace h := h.2
  refine x_i2l dL_law_760 ?_
  refine x_ldc2 (v := 4294967295) dL_law_761 kcL_27 ?_
  refine x_land dL_law_764 ?_
  refine x_lor dL_law_765 ?_
  refine x_aload_n dL_law_766 rfl ?_
  refine x_iload dL_law_767 rfl ?_
  refine x_bipush (v := 6) dL_law_769 (by decide) ?_
  refine x_iadd dL_law_771 ?_
  refine x_sld hL.2.2 dL_law_772 h.1 ?_
  replace h := h.2
  refine x_i2l dL_law_773 ?_
  refine x_bipush (v := 32) dL_law_774 (by decide) ?_
  refine x_lshl dL_law_776 ?_
  refine x_aload_n dL_law_777 rfl ?_
  refine x_iload dL_law_778 rfl ?_
  refine x_bipush (v := 7) dL_law_780 (by decide) ?_
  refine x_iadd dL_law_782 ?_
  refine x_sld hL.2.2 dL_law_783 h.1 ?_
  replace h := h.2
  refine x_i2l dL_law_784 ?_
  refine x_ldc2 (v := 4294967295) dL_law_785 kcL_27 ?_
  refine x_land dL_law_788 ?_
  refine x_lor dL_law_789 ?_
  obtain ⟨h1, h⟩ := h
  refine x_callVI (As := [aI (xs (Int32.toNatClampNeg (v4 + 1))), aJ (((Int32.toInt64 (xs (Int32.toNatClampNeg (v4 + 2)))) <<< (Int32.toInt64 32 &&& 63)) ||| ((Int32.toInt64 (xs (Int32.toNatClampNeg (v4 + 3)))) &&& 4294967295)), aJ (((Int32.toInt64 (xs (Int32.toNatClampNeg (v4 + 4)))) <<< (Int32.toInt64 32 &&& 63)) ||| ((Int32.toInt64 (xs (Int32.toNatClampNeg (v4 + 5)))) &&& 4294967295)), aJ (((Int32.toInt64 (xs (Int32.toNatClampNeg (v4 + 6)))) <<< (Int32.toInt64 32 &&& 63)) ||| ((Int32.toInt64 (xs (Int32.toNatClampNeg (v4 + 7)))) &&& 4294967295))]) (st := [aI x_712]) kL_69 rfl ⟨rfl, rfl, by decide, by decide⟩ dL_law_790 rfl (Nat.le_of_ble_eq_true rfl) hf h1 (ctX7_place h) (fun x_790 S_790 h => ?_)
  refine x_icmp_eq (tgt := 1241) dL_law_793 (by decide) (fun c => ?_) (fun c => ?_)
  · replace h := h.1 c
    refine x_lv (lv' := [(0, aA SC), (1, aA v1), (2, aA v2), (3, aA v3), (4, aI v4)]) ⟨rfl, rfl, rfl, rfl, rfl, trivial⟩ ?_
    exact xL_law_1241 hL hK33 _ _ _ _ _ _ _ (by omega) (by omega) h
  · replace h := h.2 c
    refine x_iconst (v := 0) dL_law_796 (by decide) ?_
    exact h.elim
set_option maxRecDepth 100000 in
set_option maxHeartbeats 4000000 in
theorem xL_law_624 {E : en} {ad : Nat → Nat} {L : Nat} {xs : Nat → Int32} {N : Nat} {K33 : Nat → Nat → Nat → Int32 → hs → Prop} (hL : lawE E ad L xs) (hK33 : ∀ (v1 v2 v3 : Nat) (v4 : Int32) (S : hs) (n1 n2 : Nat), n1 + N ≤ 601024 → n2 + 6 * N ≤ 7293000 → K33 v1 v2 v3 v4 S → X E mL_law n1 n2 ad S 33 [(0, aA SC), (1, aA v1), (2, aA v2), (3, aA v3), (4, aI v4)] []) (v1 : Nat) (v2 : Nat) (v3 : Nat) (v4 : Int32) (S : hs) (n1 n2 : Nat) (hc1 : n1 + N ≤ 601024) (hc2 : n2 + 6 * N ≤ 7293000) (h : PL_law_624 L xs K33 v1 v2 v3 v4 S) : X E mL_law n1 n2 ad S 624 [(0, aA SC), (1, aA v1), (2, aA v2), (3, aA v3), (4, aI v4)] [] := by
  have hf : n1 ≤ mL_law.2.2.2.1.cells ∧ n2 ≤ mL_law.2.2.2.1.slots := ⟨show n1 ≤ 601024 by omega, show n2 ≤ 7293000 by omega⟩
  unfold PL_law_624 at h
  refine x_aload_n dL_law_624 rfl ?_
  obtain ⟨h1, h⟩ := h
  refine x_callVI (As := []) (st := []) kL_61 rfl ⟨rfl, rfl, by decide, by decide⟩ dL_law_625 rfl (Nat.le_of_ble_eq_true rfl) hf h1 (ctX6_track h) (fun x_625 S_625 h => ?_)
  refine x_aload_n dL_law_628 rfl ?_
  obtain ⟨h1, h⟩ := h
  refine x_callVI (As := []) (st := [aI x_625]) kL_64 rfl ⟨rfl, rfl, by decide, by decide⟩ dL_law_629 rfl (Nat.le_of_ble_eq_true rfl) hf h1 (ctX7_track h) (fun x_629 S_629 h => ?_)
  refine x_icmp_eq (tgt := 1241) dL_law_632 (by decide) (fun c => ?_) (fun c => ?_)
  · replace h := h.1 c
    refine x_lv (lv' := [(0, aA SC), (1, aA v1), (2, aA v2), (3, aA v3), (4, aI v4)]) ⟨rfl, rfl, rfl, rfl, rfl, trivial⟩ ?_
    exact xL_law_1241 hL hK33 _ _ _ _ _ _ _ (by omega) (by omega) h
  · replace h := h.2 c
    refine x_iconst (v := 0) dL_law_635 (by decide) ?_
    exact h.elim
set_option maxRecDepth 100000 in
set_option maxHeartbeats 4000000 in
theorem xL_law_463 {E : en} {ad : Nat → Nat} {L : Nat} {xs : Nat → Int32} {N : Nat} {K33 : Nat → Nat → Nat → Int32 → hs → Prop} (hL : lawE E ad L xs) (hK33 : ∀ (v1 v2 v3 : Nat) (v4 : Int32) (S : hs) (n1 n2 : Nat), n1 + N ≤ 601024 → n2 + 6 * N ≤ 7293000 → K33 v1 v2 v3 v4 S → X E mL_law n1 n2 ad S 33 [(0, aA SC), (1, aA v1), (2, aA v2), (3, aA v3), (4, aI v4)] []) (v1 : Nat) (v2 : Nat) (v3 : Nat) (v4 : Int32) (S : hs) (n1 n2 : Nat) (hc1 : n1 + N ≤ 601024) (hc2 : n2 + 6 * N ≤ 7293000) (h : PL_law_463 L xs K33 v1 v2 v3 v4 S) : X E mL_law n1 n2 ad S 463 [(0, aA SC), (1, aA v1), (2, aA v2), (3, aA v3), (4, aI v4)] [] := by
  have hf : n1 ≤ mL_law.2.2.2.1.cells ∧ n2 ≤ mL_law.2.2.2.1.slots := ⟨show n1 ≤ 601024 by omega, show n2 ≤ 7293000 by omega⟩
  unfold PL_law_463 at h
  refine x_aload_n dL_law_463 rfl ?_
  refine x_aload_n dL_law_464 rfl ?_
  refine x_iload dL_law_465 rfl ?_
  refine x_iconst (v := 1) dL_law_467 (by decide) ?_
  refine x_iadd dL_law_468 ?_
  refine x_sld hL.2.2 dL_law_469 h.1 ?_
  replace h := h.2
  refine x_i2l dL_law_470 ?_
  refine x_bipush (v := 32) dL_law_471 (by decide) ?_
  refine x_lshl dL_law_473 ?_
  refine x_aload_n dL_law_474 rfl ?_
  refine x_iload dL_law_475 rfl ?_
  refine x_iconst (v := 2) dL_law_477 (by decide) ?_
  refine x_iadd dL_law_478 ?_
  refine x_sld hL.2.2 dL_law_479 h.1 ?_
  replace h := h.2
  refine x_i2l dL_law_480 ?_
  refine x_ldc2 (v := 4294967295) dL_law_481 kcL_27 ?_
  refine x_land dL_law_484 ?_
  refine x_lor dL_law_485 ?_
  refine x_aload_n dL_law_486 rfl ?_
  refine x_iload dL_law_487 rfl ?_
  refine x_iconst (v := 3) dL_law_489 (by decide) ?_
  refine x_iadd dL_law_490 ?_
  refine x_sld hL.2.2 dL_law_491 h.1 ?_
  replace h := h.2
  refine x_i2l dL_law_492 ?_
  refine x_bipush (v := 32) dL_law_493 (by decide) ?_
  refine x_lshl dL_law_495 ?_
  refine x_aload_n dL_law_496 rfl ?_
  refine x_iload dL_law_497 rfl ?_
  refine x_iconst (v := 4) dL_law_499 (by decide) ?_
  refine x_iadd dL_law_500 ?_
  refine x_sld hL.2.2 dL_law_501 h.1 ?_
  replace h := h.2
  refine x_i2l dL_law_502 ?_
  refine x_ldc2 (v := 4294967295) dL_law_503 kcL_27 ?_
  refine x_land dL_law_506 ?_
  refine x_lor dL_law_507 ?_
  refine x_aload_n dL_law_508 rfl ?_
  refine x_iload dL_law_509 rfl ?_
  refine x_iconst (v := 5) dL_law_511 (by decide) ?_
  refine x_iadd dL_law_512 ?_
  refine x_sld hL.2.2 dL_law_513 h.1 ?_
  replace h := h.2
  refine x_i2l dL_law_514 ?_
  refine x_bipush (v := 32) dL_law_515 (by decide) ?_
  refine x_lshl dL_law_517 ?_
  refine x_aload_n dL_law_518 rfl ?_
  refine x_iload dL_law_519 rfl ?_
  refine x_bipush (v := 6) dL_law_521 (by decide) ?_
  refine x_iadd dL_law_523 ?_
  refine x_sld hL.2.2 dL_law_524 h.1 ?_
  replace h := h.2
  refine x_i2l dL_law_525 ?_
  refine x_ldc2 (v := 4294967295) dL_law_526 kcL_27 ?_
  refine x_land dL_law_529 ?_
  refine x_lor dL_law_530 ?_
  refine x_aload_n dL_law_531 rfl ?_
  refine x_iload dL_law_532 rfl ?_
  refine x_bipush (v := 7) dL_law_534 (by decide) ?_
  refine x_iadd dL_law_536 ?_
  refine x_sld hL.2.2 dL_law_537 h.1 ?_
  replace h := h.2
  obtain ⟨h1, h⟩ := h
  refine x_callVI (As := [aJ (((Int32.toInt64 (xs (Int32.toNatClampNeg (v4 + 1)))) <<< (Int32.toInt64 32 &&& 63)) ||| ((Int32.toInt64 (xs (Int32.toNatClampNeg (v4 + 2)))) &&& 4294967295)), aJ (((Int32.toInt64 (xs (Int32.toNatClampNeg (v4 + 3)))) <<< (Int32.toInt64 32 &&& 63)) ||| ((Int32.toInt64 (xs (Int32.toNatClampNeg (v4 + 4)))) &&& 4294967295)), aJ (((Int32.toInt64 (xs (Int32.toNatClampNeg (v4 + 5)))) <<< (Int32.toInt64 32 &&& 63)) ||| ((Int32.toInt64 (xs (Int32.toNatClampNeg (v4 + 6)))) &&& 4294967295)), aI (xs (Int32.toNatClampNeg (v4 + 7)))]) (st := []) kL_56 rfl ⟨rfl, rfl, by decide, by decide⟩ dL_law_538 rfl (Nat.le_of_ble_eq_true rfl) hf h1 (ctX6_report h) (fun x_538 S_538 h => ?_)
  refine x_aload_n dL_law_541 rfl ?_
  refine x_aload_n dL_law_542 rfl ?_
  refine x_iload dL_law_543 rfl ?_
  refine x_iconst (v := 1) dL_law_545 (by decide) ?_
  refine x_iadd dL_law_546 ?_
  refine x_sld hL.2.2 dL_law_547 h.1 ?_
  replace h := h.2
  refine x_i2l dL_law_548 ?_
  refine x_bipush (v := 32) dL_law_549 (by decide) ?_
  refine x_lshl dL_law_551 ?_
  refine x_aload_n dL_law_552 rfl ?_
  refine x_iload dL_law_553 rfl ?_
  refine x_iconst (v := 2) dL_law_555 (by decide) ?_
  refine x_iadd dL_law_556 ?_
  refine x_sld hL.2.2 dL_law_557 h.1 ?_
  replace h := h.2
  refine x_i2l dL_law_558 ?_
  refine x_ldc2 (v := 4294967295) dL_law_559 kcL_27 ?_
  refine x_land dL_law_562 ?_
  refine x_lor dL_law_563 ?_
  refine x_aload_n dL_law_564 rfl ?_
  refine x_iload dL_law_565 rfl ?_
  refine x_iconst (v := 3) dL_law_567 (by decide) ?_
  refine x_iadd dL_law_568 ?_
  refine x_sld hL.2.2 dL_law_569 h.1 ?_
  replace h := h.2
  refine x_i2l dL_law_570 ?_
  refine x_bipush (v := 32) dL_law_571 (by decide) ?_
  refine x_lshl dL_law_573 ?_
  refine x_aload_n dL_law_574 rfl ?_
  refine x_iload dL_law_575 rfl ?_
  refine x_iconst (v := 4) dL_law_577 (by decide) ?_
  refine x_iadd dL_law_578 ?_
  refine x_sld hL.2.2 dL_law_579 h.1 ?_
  replace h := h.2
  refine x_i2l dL_law_580 ?_
  refine x_ldc2 (v := 4294967295) dL_law_581 kcL_27 ?_
  refine x_land dL_law_584 ?_
  refine x_lor dL_law_585 ?_
  refine x_aload_n dL_law_586 rfl ?_
  refine x_iload dL_law_587 rfl ?_
  refine x_iconst (v := 5) dL_law_589 (by decide) ?_
  refine x_iadd dL_law_590 ?_
  refine x_sld hL.2.2 dL_law_591 h.1 ?_
  replace h := h.2
  refine x_i2l dL_law_592 ?_
  refine x_bipush (v := 32) dL_law_593 (by decide) ?_
  refine x_lshl dL_law_595 ?_
  refine x_aload_n dL_law_596 rfl ?_
  refine x_iload dL_law_597 rfl ?_
  refine x_bipush (v := 6) dL_law_599 (by decide) ?_
  refine x_iadd dL_law_601 ?_
  refine x_sld hL.2.2 dL_law_602 h.1 ?_
  replace h := h.2
  refine x_i2l dL_law_603 ?_
  refine x_ldc2 (v := 4294967295) dL_law_604 kcL_27 ?_
  refine x_land dL_law_607 ?_
  refine x_lor dL_law_608 ?_
  refine x_aload_n dL_law_609 rfl ?_
  refine x_iload dL_law_610 rfl ?_
  refine x_bipush (v := 7) dL_law_612 (by decide) ?_
  refine x_iadd dL_law_614 ?_
  refine x_sld hL.2.2 dL_law_615 h.1 ?_
  replace h := h.2
  obtain ⟨h1, h⟩ := h
  refine x_callVI (As := [aJ (((Int32.toInt64 (xs (Int32.toNatClampNeg (v4 + 1)))) <<< (Int32.toInt64 32 &&& 63)) ||| ((Int32.toInt64 (xs (Int32.toNatClampNeg (v4 + 2)))) &&& 4294967295)), aJ (((Int32.toInt64 (xs (Int32.toNatClampNeg (v4 + 3)))) <<< (Int32.toInt64 32 &&& 63)) ||| ((Int32.toInt64 (xs (Int32.toNatClampNeg (v4 + 4)))) &&& 4294967295)), aJ (((Int32.toInt64 (xs (Int32.toNatClampNeg (v4 + 5)))) <<< (Int32.toInt64 32 &&& 63)) ||| ((Int32.toInt64 (xs (Int32.toNatClampNeg (v4 + 6)))) &&& 4294967295)), aI (xs (Int32.toNatClampNeg (v4 + 7)))]) (st := [aI x_538]) kL_60 rfl ⟨rfl, rfl, by decide, by decide⟩ dL_law_616 rfl (Nat.le_of_ble_eq_true rfl) hf h1 (ctX7_report h) (fun x_616 S_616 h => ?_)
  refine x_icmp_eq (tgt := 1241) dL_law_619 (by decide) (fun c => ?_) (fun c => ?_)
  · replace h := h.1 c
    refine x_lv (lv' := [(0, aA SC), (1, aA v1), (2, aA v2), (3, aA v3), (4, aI v4)]) ⟨rfl, rfl, rfl, rfl, rfl, trivial⟩ ?_
    exact xL_law_1241 hL hK33 _ _ _ _ _ _ _ (by omega) (by omega) h
  · replace h := h.2 c
    refine x_iconst (v := 0) dL_law_622 (by decide) ?_
    exact h.elim
set_option maxRecDepth 100000 in
set_option maxHeartbeats 4000000 in
theorem xL_law_394 {E : en} {ad : Nat → Nat} {L : Nat} {xs : Nat → Int32} {N : Nat} {K33 : Nat → Nat → Nat → Int32 → hs → Prop} (hL : lawE E ad L xs) (hK33 : ∀ (v1 v2 v3 : Nat) (v4 : Int32) (S : hs) (n1 n2 : Nat), n1 + N ≤ 601024 → n2 + 6 * N ≤ 7293000 → K33 v1 v2 v3 v4 S → X E mL_law n1 n2 ad S 33 [(0, aA SC), (1, aA v1), (2, aA v2), (3, aA v3), (4, aI v4)] []) (v1 : Nat) (v2 : Nat) (v3 : Nat) (v4 : Int32) (S : hs) (n1 n2 : Nat) (hc1 : n1 + N ≤ 601024) (hc2 : n2 + 6 * N ≤ 7293000) (h : PL_law_394 L xs K33 v1 v2 v3 v4 S) : X E mL_law n1 n2 ad S 394 [(0, aA SC), (1, aA v1), (2, aA v2), (3, aA v3), (4, aI v4)] [] := by
  have hf : n1 ≤ mL_law.2.2.2.1.cells ∧ n2 ≤ mL_law.2.2.2.1.slots := ⟨show n1 ≤ 601024 by omega, show n2 ≤ 7293000 by omega⟩
  unfold PL_law_394 at h
  refine x_aload_n dL_law_394 rfl ?_
  refine x_aload_n dL_law_395 rfl ?_
  refine x_iload dL_law_396 rfl ?_
  refine x_iconst (v := 1) dL_law_398 (by decide) ?_
  refine x_iadd dL_law_399 ?_
  refine x_sld hL.2.2 dL_law_400 h.1 ?_
  replace h := h.2
  refine x_aload_n dL_law_401 rfl ?_
  refine x_iload dL_law_402 rfl ?_
  refine x_iconst (v := 2) dL_law_404 (by decide) ?_
  refine x_iadd dL_law_405 ?_
  refine x_sld hL.2.2 dL_law_406 h.1 ?_
  replace h := h.2
  refine x_i2l dL_law_407 ?_
  refine x_bipush (v := 32) dL_law_408 (by decide) ?_
  refine x_lshl dL_law_410 ?_
  refine x_aload_n dL_law_411 rfl ?_
  refine x_iload dL_law_412 rfl ?_
  refine x_iconst (v := 3) dL_law_414 (by decide) ?_
  refine x_iadd dL_law_415 ?_
  refine x_sld hL.2.2 dL_law_416 h.1 ?_
  replace h := h.2
  refine x_i2l dL_law_417 ?_
  refine x_ldc2 (v := 4294967295) dL_law_418 kcL_27 ?_
  refine x_land dL_law_421 ?_
  refine x_lor dL_law_422 ?_
  obtain ⟨h1, h⟩ := h
  refine x_callVI (As := [aI (xs (Int32.toNatClampNeg (v4 + 1))), aJ (((Int32.toInt64 (xs (Int32.toNatClampNeg (v4 + 2)))) <<< (Int32.toInt64 32 &&& 63)) ||| ((Int32.toInt64 (xs (Int32.toNatClampNeg (v4 + 3)))) &&& 4294967295))]) (st := []) kL_51 rfl ⟨rfl, rfl, by decide, by decide⟩ dL_law_423 rfl (Nat.le_of_ble_eq_true rfl) hf h1 (ctX6_speed h) (fun x_423 S_423 h => ?_)
  refine x_aload_n dL_law_426 rfl ?_
  refine x_aload_n dL_law_427 rfl ?_
  refine x_iload dL_law_428 rfl ?_
  refine x_iconst (v := 1) dL_law_430 (by decide) ?_
  refine x_iadd dL_law_431 ?_
  refine x_sld hL.2.2 dL_law_432 h.1 ?_
  replace h := h.2
  refine x_aload_n dL_law_433 rfl ?_
  refine x_iload dL_law_434 rfl ?_
  refine x_iconst (v := 2) dL_law_436 (by decide) ?_
  refine x_iadd dL_law_437 ?_
  refine x_sld hL.2.2 dL_law_438 h.1 ?_
  replace h := h.2
  refine x_i2l dL_law_439 ?_
  refine x_bipush (v := 32) dL_law_440 (by decide) ?_
  refine x_lshl dL_law_442 ?_
  refine x_aload_n dL_law_443 rfl ?_
  refine x_iload dL_law_444 rfl ?_
  refine x_iconst (v := 3) dL_law_446 (by decide) ?_
  refine x_iadd dL_law_447 ?_
  refine x_sld hL.2.2 dL_law_448 h.1 ?_
  replace h := h.2
  refine x_i2l dL_law_449 ?_
  refine x_ldc2 (v := 4294967295) dL_law_450 kcL_27 ?_
  refine x_land dL_law_453 ?_
  refine x_lor dL_law_454 ?_
  obtain ⟨h1, h⟩ := h
  refine x_callVI (As := [aI (xs (Int32.toNatClampNeg (v4 + 1))), aJ (((Int32.toInt64 (xs (Int32.toNatClampNeg (v4 + 2)))) <<< (Int32.toInt64 32 &&& 63)) ||| ((Int32.toInt64 (xs (Int32.toNatClampNeg (v4 + 3)))) &&& 4294967295))]) (st := [aI x_423]) kL_55 rfl ⟨rfl, rfl, by decide, by decide⟩ dL_law_455 rfl (Nat.le_of_ble_eq_true rfl) hf h1 (ctX7_speed h) (fun x_455 S_455 h => ?_)
  refine x_icmp_eq (tgt := 1241) dL_law_458 (by decide) (fun c => ?_) (fun c => ?_)
  · replace h := h.1 c
    refine x_lv (lv' := [(0, aA SC), (1, aA v1), (2, aA v2), (3, aA v3), (4, aI v4)]) ⟨rfl, rfl, rfl, rfl, rfl, trivial⟩ ?_
    exact xL_law_1241 hL hK33 _ _ _ _ _ _ _ (by omega) (by omega) h
  · replace h := h.2 c
    refine x_iconst (v := 0) dL_law_461 (by decide) ?_
    exact h.elim
set_option maxRecDepth 100000 in
set_option maxHeartbeats 4000000 in
theorem xL_law_333 {E : en} {ad : Nat → Nat} {L : Nat} {xs : Nat → Int32} {N : Nat} {K33 : Nat → Nat → Nat → Int32 → hs → Prop} (hL : lawE E ad L xs) (hK33 : ∀ (v1 v2 v3 : Nat) (v4 : Int32) (S : hs) (n1 n2 : Nat), n1 + N ≤ 601024 → n2 + 6 * N ≤ 7293000 → K33 v1 v2 v3 v4 S → X E mL_law n1 n2 ad S 33 [(0, aA SC), (1, aA v1), (2, aA v2), (3, aA v3), (4, aI v4)] []) (v1 : Nat) (v2 : Nat) (v3 : Nat) (v4 : Int32) (S : hs) (n1 n2 : Nat) (hc1 : n1 + N ≤ 601024) (hc2 : n2 + 6 * N ≤ 7293000) (h : PL_law_333 L xs K33 v1 v2 v3 v4 S) : X E mL_law n1 n2 ad S 333 [(0, aA SC), (1, aA v1), (2, aA v2), (3, aA v3), (4, aI v4)] [] := by
  have hf : n1 ≤ mL_law.2.2.2.1.cells ∧ n2 ≤ mL_law.2.2.2.1.slots := ⟨show n1 ≤ 601024 by omega, show n2 ≤ 7293000 by omega⟩
  unfold PL_law_333 at h
  refine x_aload_n dL_law_333 rfl ?_
  refine x_aload_n dL_law_334 rfl ?_
  refine x_iload dL_law_335 rfl ?_
  refine x_iconst (v := 1) dL_law_337 (by decide) ?_
  refine x_iadd dL_law_338 ?_
  refine x_sld hL.2.2 dL_law_339 h.1 ?_
  replace h := h.2
  refine x_aload_n dL_law_340 rfl ?_
  refine x_iload dL_law_341 rfl ?_
  refine x_iconst (v := 2) dL_law_343 (by decide) ?_
  refine x_iadd dL_law_344 ?_
  refine x_sld hL.2.2 dL_law_345 h.1 ?_
  replace h := h.2
  refine x_aload_n dL_law_346 rfl ?_
  refine x_iload dL_law_347 rfl ?_
  refine x_iconst (v := 3) dL_law_349 (by decide) ?_
  refine x_iadd dL_law_350 ?_
  refine x_sld hL.2.2 dL_law_351 h.1 ?_
  replace h := h.2
  refine x_aload_n dL_law_352 rfl ?_
  refine x_iload dL_law_353 rfl ?_
  refine x_iconst (v := 4) dL_law_355 (by decide) ?_
  refine x_iadd dL_law_356 ?_
  refine x_sld hL.2.2 dL_law_357 h.1 ?_
  replace h := h.2
  obtain ⟨h1, h⟩ := h
  refine x_callVI (As := [aI (xs (Int32.toNatClampNeg (v4 + 1))), aI (xs (Int32.toNatClampNeg (v4 + 2))), aI (xs (Int32.toNatClampNeg (v4 + 3))), aI (xs (Int32.toNatClampNeg (v4 + 4)))]) (st := []) kL_46 rfl ⟨rfl, rfl, by decide, by decide⟩ dL_law_358 rfl (Nat.le_of_ble_eq_true rfl) hf h1 (ctX6_bars h) (fun x_358 S_358 h => ?_)
  refine x_aload_n dL_law_361 rfl ?_
  refine x_aload_n dL_law_362 rfl ?_
  refine x_iload dL_law_363 rfl ?_
  refine x_iconst (v := 1) dL_law_365 (by decide) ?_
  refine x_iadd dL_law_366 ?_
  refine x_sld hL.2.2 dL_law_367 h.1 ?_
  replace h := h.2
  refine x_aload_n dL_law_368 rfl ?_
  refine x_iload dL_law_369 rfl ?_
  refine x_iconst (v := 2) dL_law_371 (by decide) ?_
  refine x_iadd dL_law_372 ?_
  refine x_sld hL.2.2 dL_law_373 h.1 ?_
  replace h := h.2
  refine x_aload_n dL_law_374 rfl ?_
  refine x_iload dL_law_375 rfl ?_
  refine x_iconst (v := 3) dL_law_377 (by decide) ?_
  refine x_iadd dL_law_378 ?_
  refine x_sld hL.2.2 dL_law_379 h.1 ?_
  replace h := h.2
  refine x_aload_n dL_law_380 rfl ?_
  refine x_iload dL_law_381 rfl ?_
  refine x_iconst (v := 4) dL_law_383 (by decide) ?_
  refine x_iadd dL_law_384 ?_
  refine x_sld hL.2.2 dL_law_385 h.1 ?_
  replace h := h.2
  obtain ⟨h1, h⟩ := h
  refine x_callVI (As := [aI (xs (Int32.toNatClampNeg (v4 + 1))), aI (xs (Int32.toNatClampNeg (v4 + 2))), aI (xs (Int32.toNatClampNeg (v4 + 3))), aI (xs (Int32.toNatClampNeg (v4 + 4)))]) (st := [aI x_358]) kL_50 rfl ⟨rfl, rfl, by decide, by decide⟩ dL_law_386 rfl (Nat.le_of_ble_eq_true rfl) hf h1 (ctX7_bars h) (fun x_386 S_386 h => ?_)
  refine x_icmp_eq (tgt := 1241) dL_law_389 (by decide) (fun c => ?_) (fun c => ?_)
  · replace h := h.1 c
    refine x_lv (lv' := [(0, aA SC), (1, aA v1), (2, aA v2), (3, aA v3), (4, aI v4)]) ⟨rfl, rfl, rfl, rfl, rfl, trivial⟩ ?_
    exact xL_law_1241 hL hK33 _ _ _ _ _ _ _ (by omega) (by omega) h
  · replace h := h.2 c
    refine x_iconst (v := 0) dL_law_392 (by decide) ?_
    exact h.elim
set_option maxRecDepth 100000 in
set_option maxHeartbeats 4000000 in
theorem xL_law_308 {E : en} {ad : Nat → Nat} {L : Nat} {xs : Nat → Int32} {N : Nat} {K33 : Nat → Nat → Nat → Int32 → hs → Prop} (hL : lawE E ad L xs) (hK33 : ∀ (v1 v2 v3 : Nat) (v4 : Int32) (S : hs) (n1 n2 : Nat), n1 + N ≤ 601024 → n2 + 6 * N ≤ 7293000 → K33 v1 v2 v3 v4 S → X E mL_law n1 n2 ad S 33 [(0, aA SC), (1, aA v1), (2, aA v2), (3, aA v3), (4, aI v4)] []) (v1 : Nat) (v2 : Nat) (v3 : Nat) (v4 : Int32) (S : hs) (n1 n2 : Nat) (hc1 : n1 + N ≤ 601024) (hc2 : n2 + 6 * N ≤ 7293000) (h : PL_law_308 L xs K33 v1 v2 v3 v4 S) : X E mL_law n1 n2 ad S 308 [(0, aA SC), (1, aA v1), (2, aA v2), (3, aA v3), (4, aI v4)] [] := by
  have hf : n1 ≤ mL_law.2.2.2.1.cells ∧ n2 ≤ mL_law.2.2.2.1.slots := ⟨show n1 ≤ 601024 by omega, show n2 ≤ 7293000 by omega⟩
  unfold PL_law_308 at h
  refine x_aload_n dL_law_308 rfl ?_
  refine x_aload_n dL_law_309 rfl ?_
  refine x_iload dL_law_310 rfl ?_
  refine x_iconst (v := 1) dL_law_312 (by decide) ?_
  refine x_iadd dL_law_313 ?_
  refine x_sld hL.2.2 dL_law_314 h.1 ?_
  replace h := h.2
  obtain ⟨h1, h⟩ := h
  refine x_callVI (As := [aI (xs (Int32.toNatClampNeg (v4 + 1)))]) (st := []) kL_42 rfl ⟨rfl, rfl, by decide, by decide⟩ dL_law_315 rfl (Nat.le_of_ble_eq_true rfl) hf h1 (ctX6_hole h) (fun x_315 S_315 h => ?_)
  refine x_aload_n dL_law_318 rfl ?_
  refine x_aload_n dL_law_319 rfl ?_
  refine x_iload dL_law_320 rfl ?_
  refine x_iconst (v := 1) dL_law_322 (by decide) ?_
  refine x_iadd dL_law_323 ?_
  refine x_sld hL.2.2 dL_law_324 h.1 ?_
  replace h := h.2
  obtain ⟨h1, h⟩ := h
  refine x_callVI (As := [aI (xs (Int32.toNatClampNeg (v4 + 1)))]) (st := [aI x_315]) kL_45 rfl ⟨rfl, rfl, by decide, by decide⟩ dL_law_325 rfl (Nat.le_of_ble_eq_true rfl) hf h1 (ctX7_hole h) (fun x_325 S_325 h => ?_)
  refine x_icmp_eq (tgt := 1241) dL_law_328 (by decide) (fun c => ?_) (fun c => ?_)
  · replace h := h.1 c
    refine x_lv (lv' := [(0, aA SC), (1, aA v1), (2, aA v2), (3, aA v3), (4, aI v4)]) ⟨rfl, rfl, rfl, rfl, rfl, trivial⟩ ?_
    exact xL_law_1241 hL hK33 _ _ _ _ _ _ _ (by omega) (by omega) h
  · replace h := h.2 c
    refine x_iconst (v := 0) dL_law_331 (by decide) ?_
    exact h.elim
set_option maxRecDepth 100000 in
set_option maxHeartbeats 4000000 in
theorem xL_law_283 {E : en} {ad : Nat → Nat} {L : Nat} {xs : Nat → Int32} {N : Nat} {K33 : Nat → Nat → Nat → Int32 → hs → Prop} (hL : lawE E ad L xs) (hK33 : ∀ (v1 v2 v3 : Nat) (v4 : Int32) (S : hs) (n1 n2 : Nat), n1 + N ≤ 601024 → n2 + 6 * N ≤ 7293000 → K33 v1 v2 v3 v4 S → X E mL_law n1 n2 ad S 33 [(0, aA SC), (1, aA v1), (2, aA v2), (3, aA v3), (4, aI v4)] []) (v1 : Nat) (v2 : Nat) (v3 : Nat) (v4 : Int32) (S : hs) (n1 n2 : Nat) (hc1 : n1 + N ≤ 601024) (hc2 : n2 + 6 * N ≤ 7293000) (h : PL_law_283 L xs K33 v1 v2 v3 v4 S) : X E mL_law n1 n2 ad S 283 [(0, aA SC), (1, aA v1), (2, aA v2), (3, aA v3), (4, aI v4)] [] := by
  have hf : n1 ≤ mL_law.2.2.2.1.cells ∧ n2 ≤ mL_law.2.2.2.1.slots := ⟨show n1 ≤ 601024 by omega, show n2 ≤ 7293000 by omega⟩
  unfold PL_law_283 at h
  refine x_aload_n dL_law_283 rfl ?_
  refine x_aload_n dL_law_284 rfl ?_
  refine x_iload dL_law_285 rfl ?_
  refine x_iconst (v := 1) dL_law_287 (by decide) ?_
  refine x_iadd dL_law_288 ?_
  refine x_sld hL.2.2 dL_law_289 h.1 ?_
  replace h := h.2
  obtain ⟨h1, h⟩ := h
  refine x_callVI (As := [aI (xs (Int32.toNatClampNeg (v4 + 1)))]) (st := []) kL_37 rfl ⟨rfl, rfl, by decide, by decide⟩ dL_law_290 rfl (Nat.le_of_ble_eq_true rfl) hf h1 (ctX6_ring h) (fun x_290 S_290 h => ?_)
  refine x_aload_n dL_law_293 rfl ?_
  refine x_aload_n dL_law_294 rfl ?_
  refine x_iload dL_law_295 rfl ?_
  refine x_iconst (v := 1) dL_law_297 (by decide) ?_
  refine x_iadd dL_law_298 ?_
  refine x_sld hL.2.2 dL_law_299 h.1 ?_
  replace h := h.2
  obtain ⟨h1, h⟩ := h
  refine x_callVI (As := [aI (xs (Int32.toNatClampNeg (v4 + 1)))]) (st := [aI x_290]) kL_41 rfl ⟨rfl, rfl, by decide, by decide⟩ dL_law_300 rfl (Nat.le_of_ble_eq_true rfl) hf h1 (ctX7_ring h) (fun x_300 S_300 h => ?_)
  refine x_icmp_eq (tgt := 1241) dL_law_303 (by decide) (fun c => ?_) (fun c => ?_)
  · replace h := h.1 c
    refine x_lv (lv' := [(0, aA SC), (1, aA v1), (2, aA v2), (3, aA v3), (4, aI v4)]) ⟨rfl, rfl, rfl, rfl, rfl, trivial⟩ ?_
    exact xL_law_1241 hL hK33 _ _ _ _ _ _ _ (by omega) (by omega) h
  · replace h := h.2 c
    refine x_iconst (v := 0) dL_law_306 (by decide) ?_
    exact h.elim
set_option maxRecDepth 100000 in
set_option maxHeartbeats 4000000 in
theorem xL_law_280 {E : en} {ad : Nat → Nat} {L : Nat} {xs : Nat → Int32} {N : Nat} {K33 : Nat → Nat → Nat → Int32 → hs → Prop} (hL : lawE E ad L xs) (hK33 : ∀ (v1 v2 v3 : Nat) (v4 : Int32) (S : hs) (n1 n2 : Nat), n1 + N ≤ 601024 → n2 + 6 * N ≤ 7293000 → K33 v1 v2 v3 v4 S → X E mL_law n1 n2 ad S 33 [(0, aA SC), (1, aA v1), (2, aA v2), (3, aA v3), (4, aI v4)] []) (v1 : Nat) (v2 : Nat) (v3 : Nat) (v4 : Int32) (S : hs) (n1 n2 : Nat) (hc1 : n1 + N ≤ 601024) (hc2 : n2 + 6 * N ≤ 7293000) (h : PL_law_280 L xs K33 v1 v2 v3 v4 S) : X E mL_law n1 n2 ad S 280 [(0, aA SC), (1, aA v1), (2, aA v2), (3, aA v3), (4, aI v4)] [] := by
  have hf : n1 ≤ mL_law.2.2.2.1.cells ∧ n2 ≤ mL_law.2.2.2.1.slots := ⟨show n1 ≤ 601024 by omega, show n2 ≤ 7293000 by omega⟩
  unfold PL_law_280 at h
  refine x_goto (tgt := 1241) dL_law_280 (by decide) ?_
  refine x_lv (lv' := [(0, aA SC), (1, aA v1), (2, aA v2), (3, aA v3), (4, aI v4)]) ⟨rfl, rfl, rfl, rfl, rfl, trivial⟩ ?_
  exact xL_law_1241 hL hK33 _ _ _ _ _ _ _ (by omega) (by omega) h
set_option maxRecDepth 100000 in
set_option maxHeartbeats 4000000 in
theorem xL_law_274 {E : en} {ad : Nat → Nat} {L : Nat} {xs : Nat → Int32} {N : Nat} {K33 : Nat → Nat → Nat → Int32 → hs → Prop} (hL : lawE E ad L xs) (hK33 : ∀ (v1 v2 v3 : Nat) (v4 : Int32) (S : hs) (n1 n2 : Nat), n1 + N ≤ 601024 → n2 + 6 * N ≤ 7293000 → K33 v1 v2 v3 v4 S → X E mL_law n1 n2 ad S 33 [(0, aA SC), (1, aA v1), (2, aA v2), (3, aA v3), (4, aI v4)] []) (v1 : Nat) (v2 : Nat) (v3 : Nat) (v4 : Int32) (s0 : Int64) (s1 : Int64) (S : hs) (n1 n2 : Nat) (hc1 : n1 + N ≤ 601024) (hc2 : n2 + 6 * N ≤ 7293000) (h : PL_law_274 L xs K33 v1 v2 v3 v4 s0 s1 S) : X E mL_law n1 n2 ad S 274 [(0, aA SC), (1, aA v1), (2, aA v2), (3, aA v3), (4, aI v4)] [aJ s1, aJ s0] := by
  have hf : n1 ≤ mL_law.2.2.2.1.cells ∧ n2 ≤ mL_law.2.2.2.1.slots := ⟨show n1 ≤ 601024 by omega, show n2 ≤ 7293000 by omega⟩
  unfold PL_law_274 at h
  refine x_lcmp_eq (tgt := 280) dL_law_274 dL_law_275 (by decide) (fun c => ?_) (fun c => ?_)
  · replace h := h.1 c
    refine x_lv (lv' := [(0, aA SC), (1, aA v1), (2, aA v2), (3, aA v3), (4, aI v4)]) ⟨rfl, rfl, rfl, rfl, rfl, trivial⟩ ?_
    exact xL_law_280 hL hK33 _ _ _ _ _ _ _ (by omega) (by omega) h
  · replace h := h.2 c
    refine x_iconst (v := 0) dL_law_278 (by decide) ?_
    exact h.elim
set_option maxRecDepth 100000 in
set_option maxHeartbeats 4000000 in
theorem xL_law_33 {E : en} {ad : Nat → Nat} {L : Nat} {xs : Nat → Int32} (hL : lawE E ad L xs) (hcor : ∀ (v1 : Nat) (p0 : Int32) (p1 p2 : Int64) (v3 : Nat) (v2 : Nat) (v4 : Int32) {n1 n2 : Nat} {S : hs} {P : Int32 → hs → Prop}, n1 + 1 ≤ 601024 → n2 + 6 ≤ 7293000 → PL_corner v1 p0 p1 p2 v3 S P → (∀ x S', P x S' → X E mL_law (n1 + 1) (n2 + 6) ad S' (184 + 3) [(0, aA SC), (1, aA v1), (2, aA v2), (3, aA v3), (4, aI v4)] [aI x]) → X E mL_law n1 n2 ad S 184 [(0, aA SC), (1, aA v1), (2, aA v2), (3, aA v3), (4, aI v4)] [aA v3, aJ p2, aJ p1, aI p0, aA v1]) : ∀ (N : Nat) (v1 v2 v3 : Nat) (v4 : Int32) (S : hs) (n1 n2 : Nat), n1 + N ≤ 601024 → n2 + 6 * N ≤ 7293000 → PL_law_33 L xs N v1 v2 v3 v4 S → X E mL_law n1 n2 ad S 33 [(0, aA SC), (1, aA v1), (2, aA v2), (3, aA v3), (4, aI v4)] [] := by
  intro N
  induction N with
  | zero => intro v1 v2 v3 v4 S n1 n2 _ _ h; exact h.elim
  | succ N ih =>
    intro v1 v2 v3 v4 S n1 n2 hc1 hc2 h
    have hK33 := ih
    have hf : n1 ≤ mL_law.2.2.2.1.cells ∧ n2 ≤ mL_law.2.2.2.1.slots := ⟨show n1 ≤ 601024 by omega, show n2 ≤ 7293000 by omega⟩
    simp only [PL_law_33] at h
    refine x_iload dL_law_33 rfl ?_
    refine x_aload_n dL_law_35 rfl ?_
    refine x_slen hL.2.2 dL_law_36 ?_
    refine x_bipush (v := 8) dL_law_37 (by decide) ?_
    refine x_isub dL_law_39 ?_
    refine x_icmp_gt (tgt := 1247) dL_law_40 (by decide) (fun c => ?_) (fun c => ?_)
    · replace h := h.1 c
      refine x_iconst (v := 1) dL_law_1247 (by decide) ?_
      exact xL_end hL ⟨by omega, by omega⟩ dL_law_1248
    · replace h := h.2 c
      refine x_aload_n dL_law_43 rfl ?_
      refine x_iload dL_law_44 rfl ?_
      refine x_sld hL.2.2 dL_law_46 h.1 ?_
      replace h := h.2
      refine x_bipush (v := 31) dL_law_47 (by decide) ?_
      refine x_iand dL_law_49 ?_
      refine x_tsw dL_law_50 (by decide) (fun j off ho => ?_) (by decide) (fun j off ho hx tgt ht => ?_) (fun tgt hx ht => ?_)
      · have hj : j < 17 := (Array.getElem?_eq_some_iff.mp ho).1
        obtain rfl | rfl | rfl | rfl | rfl | rfl | rfl | rfl | rfl | rfl | rfl | rfl | rfl | rfl | rfl | rfl | rfl : j = 0 ∨ j = 1 ∨ j = 2 ∨ j = 3 ∨ j = 4 ∨ j = 5 ∨ j = 6 ∨ j = 7 ∨ j = 8 ∨ j = 9 ∨ j = 10 ∨ j = 11 ∨ j = 12 ∨ j = 13 ∨ j = 14 ∨ j = 15 ∨ j = 16 := by omega
        · obtain rfl : (82 : Int) = off := Option.some.inj ho
          decide
        · obtain rfl : (233 : Int) = off := Option.some.inj ho
          decide
        · obtain rfl : (258 : Int) = off := Option.some.inj ho
          decide
        · obtain rfl : (283 : Int) = off := Option.some.inj ho
          decide
        · obtain rfl : (344 : Int) = off := Option.some.inj ho
          decide
        · obtain rfl : (413 : Int) = off := Option.some.inj ho
          decide
        · obtain rfl : (574 : Int) = off := Option.some.inj ho
          decide
        · obtain rfl : (587 : Int) = off := Option.some.inj ho
          decide
        · obtain rfl : (748 : Int) = off := Option.some.inj ho
          decide
        · obtain rfl : (785 : Int) = off := Option.some.inj ho
          decide
        · obtain rfl : (823 : Int) = off := Option.some.inj ho
          decide
        · obtain rfl : (848 : Int) = off := Option.some.inj ho
          decide
        · obtain rfl : (898 : Int) = off := Option.some.inj ho
          decide
        · obtain rfl : (935 : Int) = off := Option.some.inj ho
          decide
        · obtain rfl : (1004 : Int) = off := Option.some.inj ho
          decide
        · obtain rfl : (1073 : Int) = off := Option.some.inj ho
          decide
        · obtain rfl : (1110 : Int) = off := Option.some.inj ho
          decide
      · have hj : j < 17 := (Array.getElem?_eq_some_iff.mp ho).1
        obtain rfl | rfl | rfl | rfl | rfl | rfl | rfl | rfl | rfl | rfl | rfl | rfl | rfl | rfl | rfl | rfl | rfl : j = 0 ∨ j = 1 ∨ j = 2 ∨ j = 3 ∨ j = 4 ∨ j = 5 ∨ j = 6 ∨ j = 7 ∨ j = 8 ∨ j = 9 ∨ j = 10 ∨ j = 11 ∨ j = 12 ∨ j = 13 ∨ j = 14 ∨ j = 15 ∨ j = 16 := by omega
        · obtain rfl : (82 : Int) = off := Option.some.inj ho
          obtain rfl : tgt = 132 := by omega
          replace h := h.1 (by omega)
          refine x_aload_n dL_law_132 rfl ?_
          refine x_aload_n dL_law_133 rfl ?_
          refine x_iload dL_law_134 rfl ?_
          refine x_iconst (v := 1) dL_law_136 (by decide) ?_
          refine x_iadd dL_law_137 ?_
          refine x_sld hL.2.2 dL_law_138 h.1 ?_
          replace h := h.2
          refine x_aload_n dL_law_139 rfl ?_
          refine x_iload dL_law_140 rfl ?_
          refine x_iconst (v := 2) dL_law_142 (by decide) ?_
          refine x_iadd dL_law_143 ?_
          refine x_sld hL.2.2 dL_law_144 h.1 ?_
          replace h := h.2
          refine x_i2l dL_law_145 ?_
          refine x_bipush (v := 32) dL_law_146 (by decide) ?_
          refine x_lshl dL_law_148 ?_
          refine x_aload_n dL_law_149 rfl ?_
          refine x_iload dL_law_150 rfl ?_
          refine x_iconst (v := 3) dL_law_152 (by decide) ?_
          refine x_iadd dL_law_153 ?_
          refine x_sld hL.2.2 dL_law_154 h.1 ?_
          replace h := h.2
          refine x_i2l dL_law_155 ?_
          refine x_ldc2 (v := 4294967295) dL_law_156 kcL_27 ?_
          refine x_land dL_law_159 ?_
          refine x_lor dL_law_160 ?_
          refine x_aload_n dL_law_161 rfl ?_
          refine x_iload dL_law_162 rfl ?_
          refine x_iconst (v := 4) dL_law_164 (by decide) ?_
          refine x_iadd dL_law_165 ?_
          refine x_sld hL.2.2 dL_law_166 h.1 ?_
          replace h := h.2
          refine x_i2l dL_law_167 ?_
          refine x_bipush (v := 32) dL_law_168 (by decide) ?_
          refine x_lshl dL_law_170 ?_
          refine x_aload_n dL_law_171 rfl ?_
          refine x_iload dL_law_172 rfl ?_
          refine x_iconst (v := 5) dL_law_174 (by decide) ?_
          refine x_iadd dL_law_175 ?_
          refine x_sld hL.2.2 dL_law_176 h.1 ?_
          replace h := h.2
          refine x_i2l dL_law_177 ?_
          refine x_ldc2 (v := 4294967295) dL_law_178 kcL_27 ?_
          refine x_land dL_law_181 ?_
          refine x_lor dL_law_182 ?_
          refine x_aload_n dL_law_183 rfl ?_
          refine hcor _ _ _ _ _ _ _ (by omega) (by omega) h (fun x_184 S_184 h => ?_)
          have hf : n1 + 1 ≤ mL_law.2.2.2.1.cells ∧ n2 + 6 ≤ mL_law.2.2.2.1.slots := ⟨show n1 + 1 ≤ 601024 by omega, show n2 + 6 ≤ 7293000 by omega⟩
          refine x_istore dL_law_187 (by decide) rfl ?_
          refine x_aload_n dL_law_189 rfl ?_
          refine x_aload_n dL_law_190 rfl ?_
          refine x_iload dL_law_191 rfl ?_
          refine x_iconst (v := 1) dL_law_193 (by decide) ?_
          refine x_iadd dL_law_194 ?_
          refine x_sld hL.2.2 dL_law_195 h.1 ?_
          replace h := h.2
          refine x_aload_n dL_law_196 rfl ?_
          refine x_iload dL_law_197 rfl ?_
          refine x_iconst (v := 2) dL_law_199 (by decide) ?_
          refine x_iadd dL_law_200 ?_
          refine x_sld hL.2.2 dL_law_201 h.1 ?_
          replace h := h.2
          refine x_i2l dL_law_202 ?_
          refine x_bipush (v := 32) dL_law_203 (by decide) ?_
          refine x_lshl dL_law_205 ?_
          refine x_aload_n dL_law_206 rfl ?_
          refine x_iload dL_law_207 rfl ?_
          refine x_iconst (v := 3) dL_law_209 (by decide) ?_
          refine x_iadd dL_law_210 ?_
          refine x_sld hL.2.2 dL_law_211 h.1 ?_
          replace h := h.2
          refine x_i2l dL_law_212 ?_
          refine x_ldc2 (v := 4294967295) dL_law_213 kcL_27 ?_
          refine x_land dL_law_216 ?_
          refine x_lor dL_law_217 ?_
          refine x_aload_n dL_law_218 rfl ?_
          refine x_iload dL_law_219 rfl ?_
          refine x_iconst (v := 4) dL_law_221 (by decide) ?_
          refine x_iadd dL_law_222 ?_
          refine x_sld hL.2.2 dL_law_223 h.1 ?_
          replace h := h.2
          refine x_i2l dL_law_224 ?_
          refine x_bipush (v := 32) dL_law_225 (by decide) ?_
          refine x_lshl dL_law_227 ?_
          refine x_aload_n dL_law_228 rfl ?_
          refine x_iload dL_law_229 rfl ?_
          refine x_iconst (v := 5) dL_law_231 (by decide) ?_
          refine x_iadd dL_law_232 ?_
          refine x_sld hL.2.2 dL_law_233 h.1 ?_
          replace h := h.2
          refine x_i2l dL_law_234 ?_
          refine x_ldc2 (v := 4294967295) dL_law_235 kcL_27 ?_
          refine x_land dL_law_238 ?_
          refine x_lor dL_law_239 ?_
          obtain ⟨h1, h⟩ := h
          refine x_callVI (As := [aI (xs (Int32.toNatClampNeg (v4 + 1))), aJ (((Int32.toInt64 (xs (Int32.toNatClampNeg (v4 + 2)))) <<< (Int32.toInt64 32 &&& 63)) ||| ((Int32.toInt64 (xs (Int32.toNatClampNeg (v4 + 3)))) &&& 4294967295)), aJ (((Int32.toInt64 (xs (Int32.toNatClampNeg (v4 + 4)))) <<< (Int32.toInt64 32 &&& 63)) ||| ((Int32.toInt64 (xs (Int32.toNatClampNeg (v4 + 5)))) &&& 4294967295))]) (st := []) kL_32 rfl ⟨rfl, rfl, by decide, by decide⟩ dL_law_240 rfl (Nat.le_of_ble_eq_true rfl) hf h1 (ctX7_corner h) (fun x_240 S_240 h => ?_)
          refine x_istore dL_law_243 (by decide) rfl ?_
          refine x_aload_n dL_law_245 rfl ?_
          obtain ⟨h1, h⟩ := h
          refine x_callVI (As := []) (st := []) kL_33 rfl ⟨rfl, rfl, by decide, by decide⟩ dL_law_246 rfl (Nat.le_of_ble_eq_true rfl) hf h1 (ctX7_thrown h) (fun x_246 S_246 h => ?_)
          refine x_iload dL_law_249 rfl ?_
          refine x_icmp_eq (tgt := 256) dL_law_251 (by decide) (fun c => ?_) (fun c => ?_)
          · replace h := h.1 c
            refine x_iload dL_law_256 rfl ?_
            refine x_if_ne (tgt := 280) dL_law_258 (by decide) (fun c => ?_) (fun c => ?_)
            · replace h := h.2 c
              refine x_lv (lv' := [(0, aA SC), (1, aA v1), (2, aA v2), (3, aA v3), (4, aI v4)]) ⟨rfl, rfl, rfl, rfl, rfl, trivial⟩ ?_
              exact xL_law_280 hL hK33 _ _ _ _ _ _ _ (by omega) (by omega) h
            · replace h := h.1 c
              refine x_aload_n dL_law_261 rfl ?_
              refine x_iconst (v := 0) dL_law_262 (by decide) ?_
              refine x_lald dL_law_263 h.1 ?_
              replace h := h.2
              refine x_iload dL_law_264 rfl ?_
              refine x_if_eq (tgt := 273) dL_law_266 (by decide) (fun c => ?_) (fun c => ?_)
              · replace h := h.1 c
                refine x_lconst (v := 0) dL_law_273 (by decide) ?_
                refine x_lv (lv' := [(0, aA SC), (1, aA v1), (2, aA v2), (3, aA v3), (4, aI v4)]) ⟨rfl, rfl, rfl, rfl, rfl, trivial⟩ ?_
                exact xL_law_274 hL hK33 _ _ _ _ _ _ _ _ _ (by omega) (by omega) h
              · replace h := h.2 c
                refine x_lconst (v := 1) dL_law_269 (by decide) ?_
                refine x_goto (tgt := 274) dL_law_270 (by decide) ?_
                refine x_lv (lv' := [(0, aA SC), (1, aA v1), (2, aA v2), (3, aA v3), (4, aI v4)]) ⟨rfl, rfl, rfl, rfl, rfl, trivial⟩ ?_
                exact xL_law_274 hL hK33 _ _ _ _ _ _ _ _ _ (by omega) (by omega) h
          · replace h := h.2 c
            refine x_iconst (v := 0) dL_law_254 (by decide) ?_
            exact h.elim
        · obtain rfl : (233 : Int) = off := Option.some.inj ho
          obtain rfl : tgt = 283 := by omega
          replace h := h.2.1 (by omega)
          refine x_lv (lv' := [(0, aA SC), (1, aA v1), (2, aA v2), (3, aA v3), (4, aI v4)]) ⟨rfl, rfl, rfl, rfl, rfl, trivial⟩ ?_
          exact xL_law_283 hL hK33 _ _ _ _ _ _ _ (by omega) (by omega) h
        · obtain rfl : (258 : Int) = off := Option.some.inj ho
          obtain rfl : tgt = 308 := by omega
          replace h := h.2.2.1 (by omega)
          refine x_lv (lv' := [(0, aA SC), (1, aA v1), (2, aA v2), (3, aA v3), (4, aI v4)]) ⟨rfl, rfl, rfl, rfl, rfl, trivial⟩ ?_
          exact xL_law_308 hL hK33 _ _ _ _ _ _ _ (by omega) (by omega) h
        · obtain rfl : (283 : Int) = off := Option.some.inj ho
          obtain rfl : tgt = 333 := by omega
          replace h := h.2.2.2.1 (by omega)
          refine x_lv (lv' := [(0, aA SC), (1, aA v1), (2, aA v2), (3, aA v3), (4, aI v4)]) ⟨rfl, rfl, rfl, rfl, rfl, trivial⟩ ?_
          exact xL_law_333 hL hK33 _ _ _ _ _ _ _ (by omega) (by omega) h
        · obtain rfl : (344 : Int) = off := Option.some.inj ho
          obtain rfl : tgt = 394 := by omega
          replace h := h.2.2.2.2.1 (by omega)
          refine x_lv (lv' := [(0, aA SC), (1, aA v1), (2, aA v2), (3, aA v3), (4, aI v4)]) ⟨rfl, rfl, rfl, rfl, rfl, trivial⟩ ?_
          exact xL_law_394 hL hK33 _ _ _ _ _ _ _ (by omega) (by omega) h
        · obtain rfl : (413 : Int) = off := Option.some.inj ho
          obtain rfl : tgt = 463 := by omega
          replace h := h.2.2.2.2.2.1 (by omega)
          refine x_lv (lv' := [(0, aA SC), (1, aA v1), (2, aA v2), (3, aA v3), (4, aI v4)]) ⟨rfl, rfl, rfl, rfl, rfl, trivial⟩ ?_
          exact xL_law_463 hL hK33 _ _ _ _ _ _ _ (by omega) (by omega) h
        · obtain rfl : (574 : Int) = off := Option.some.inj ho
          obtain rfl : tgt = 624 := by omega
          replace h := h.2.2.2.2.2.2.1 (by omega)
          refine x_lv (lv' := [(0, aA SC), (1, aA v1), (2, aA v2), (3, aA v3), (4, aI v4)]) ⟨rfl, rfl, rfl, rfl, rfl, trivial⟩ ?_
          exact xL_law_624 hL hK33 _ _ _ _ _ _ _ (by omega) (by omega) h
        · obtain rfl : (587 : Int) = off := Option.some.inj ho
          obtain rfl : tgt = 637 := by omega
          replace h := h.2.2.2.2.2.2.2.1 (by omega)
          refine x_lv (lv' := [(0, aA SC), (1, aA v1), (2, aA v2), (3, aA v3), (4, aI v4)]) ⟨rfl, rfl, rfl, rfl, rfl, trivial⟩ ?_
          exact xL_law_637 hL hK33 _ _ _ _ _ _ _ (by omega) (by omega) h
        · obtain rfl : (748 : Int) = off := Option.some.inj ho
          obtain rfl : tgt = 798 := by omega
          replace h := h.2.2.2.2.2.2.2.2.1 (by omega)
          refine x_lv (lv' := [(0, aA SC), (1, aA v1), (2, aA v2), (3, aA v3), (4, aI v4)]) ⟨rfl, rfl, rfl, rfl, rfl, trivial⟩ ?_
          exact xL_law_798 hL hK33 _ _ _ _ _ _ _ (by omega) (by omega) h
        · obtain rfl : (785 : Int) = off := Option.some.inj ho
          obtain rfl : tgt = 835 := by omega
          replace h := h.2.2.2.2.2.2.2.2.2.1 (by omega)
          refine x_lv (lv' := [(0, aA SC), (1, aA v1), (2, aA v2), (3, aA v3), (4, aI v4)]) ⟨rfl, rfl, rfl, rfl, rfl, trivial⟩ ?_
          exact xL_law_835 hL hK33 _ _ _ _ _ _ _ (by omega) (by omega) h
        · obtain rfl : (823 : Int) = off := Option.some.inj ho
          obtain rfl : tgt = 873 := by omega
          replace h := h.2.2.2.2.2.2.2.2.2.2.1 (by omega)
          refine x_lv (lv' := [(0, aA SC), (1, aA v1), (2, aA v2), (3, aA v3), (4, aI v4)]) ⟨rfl, rfl, rfl, rfl, rfl, trivial⟩ ?_
          exact xL_law_873 hL hK33 _ _ _ _ _ _ _ (by omega) (by omega) h
        · obtain rfl : (848 : Int) = off := Option.some.inj ho
          obtain rfl : tgt = 898 := by omega
          replace h := h.2.2.2.2.2.2.2.2.2.2.2.1 (by omega)
          refine x_lv (lv' := [(0, aA SC), (1, aA v1), (2, aA v2), (3, aA v3), (4, aI v4)]) ⟨rfl, rfl, rfl, rfl, rfl, trivial⟩ ?_
          exact xL_law_898 hL hK33 _ _ _ _ _ _ _ (by omega) (by omega) h
        · obtain rfl : (898 : Int) = off := Option.some.inj ho
          obtain rfl : tgt = 948 := by omega
          replace h := h.2.2.2.2.2.2.2.2.2.2.2.2.1 (by omega)
          refine x_lv (lv' := [(0, aA SC), (1, aA v1), (2, aA v2), (3, aA v3), (4, aI v4)]) ⟨rfl, rfl, rfl, rfl, rfl, trivial⟩ ?_
          exact xL_law_948 hL hK33 _ _ _ _ _ _ _ (by omega) (by omega) h
        · obtain rfl : (935 : Int) = off := Option.some.inj ho
          obtain rfl : tgt = 985 := by omega
          replace h := h.2.2.2.2.2.2.2.2.2.2.2.2.2.1 (by omega)
          refine x_lv (lv' := [(0, aA SC), (1, aA v1), (2, aA v2), (3, aA v3), (4, aI v4)]) ⟨rfl, rfl, rfl, rfl, rfl, trivial⟩ ?_
          exact xL_law_985 hL hK33 _ _ _ _ _ _ _ (by omega) (by omega) h
        · obtain rfl : (1004 : Int) = off := Option.some.inj ho
          obtain rfl : tgt = 1054 := by omega
          replace h := h.2.2.2.2.2.2.2.2.2.2.2.2.2.2.1 (by omega)
          refine x_lv (lv' := [(0, aA SC), (1, aA v1), (2, aA v2), (3, aA v3), (4, aI v4)]) ⟨rfl, rfl, rfl, rfl, rfl, trivial⟩ ?_
          exact xL_law_1054 hL hK33 _ _ _ _ _ _ _ (by omega) (by omega) h
        · obtain rfl : (1073 : Int) = off := Option.some.inj ho
          obtain rfl : tgt = 1123 := by omega
          replace h := h.2.2.2.2.2.2.2.2.2.2.2.2.2.2.2.1 (by omega)
          refine x_lv (lv' := [(0, aA SC), (1, aA v1), (2, aA v2), (3, aA v3), (4, aI v4)]) ⟨rfl, rfl, rfl, rfl, rfl, trivial⟩ ?_
          exact xL_law_1123 hL hK33 _ _ _ _ _ _ _ (by omega) (by omega) h
        · obtain rfl : (1110 : Int) = off := Option.some.inj ho
          obtain rfl : tgt = 1160 := by omega
          replace h := h.2.2.2.2.2.2.2.2.2.2.2.2.2.2.2.2.1 (by omega)
          refine x_lv (lv' := [(0, aA SC), (1, aA v1), (2, aA v2), (3, aA v3), (4, aI v4)]) ⟨rfl, rfl, rfl, rfl, rfl, trivial⟩ ?_
          exact xL_law_1160 hL hK33 _ _ _ _ _ _ _ (by omega) (by omega) h
      · obtain rfl : tgt = 1241 := by omega
        replace h := h.2.2.2.2.2.2.2.2.2.2.2.2.2.2.2.2.2 hx
        refine x_lv (lv' := [(0, aA SC), (1, aA v1), (2, aA v2), (3, aA v3), (4, aI v4)]) ⟨rfl, rfl, rfl, rfl, rfl, trivial⟩ ?_
        exact xL_law_1241 hL hK33 _ _ _ _ _ _ _ (by omega) (by omega) h
