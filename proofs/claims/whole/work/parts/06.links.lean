abbrev mX0_isThere : mt := (yX0_isThere, cX0_isThere, 1, { frames := 0, cells := 0, slots := 0, locals := 0 }, (some .boolean))
abbrev mX0_outer : mt := (yX0_outer, cX0_outer, 1, { frames := 0, cells := 0, slots := 0, locals := 0 }, (some (.object "AreaCrossings$Ring")))
abbrev mX2_size : mt := (yX2_size, cX2_size, 1, { frames := 0, cells := 0, slots := 0, locals := 0 }, (some .int))
abbrev mX0_isUntouched : mt := (yX0_isUntouched, cX0_isUntouched, 1, { frames := 1, cells := 0, slots := 0, locals := 20 }, (some .boolean))
abbrev mX0_closedRings : mt := (yX0_closedRings, cX0_closedRings, 1, { frames := 0, cells := 0, slots := 0, locals := 0 }, (some .int))
abbrev mX0_ringOf : mt := (yX0_ringOf, cX0_ringOf, 2, { frames := 0, cells := 0, slots := 0, locals := 0 }, (some (.object "AreaCrossings$Ring")))
abbrev mX0_fastFrom : mt := (yX0_fastFrom, cX0_fastFrom, 1, { frames := 0, cells := 0, slots := 0, locals := 0 }, (some .long))
abbrev mX0_setFastFrom : mt := (yX0_setFastFrom, cX0_setFastFrom, 3, { frames := 0, cells := 0, slots := 0, locals := 0 }, none)
abbrev mX0_beingMade : mt := (yX0_beingMade, cX0_beingMade, 1, { frames := 0, cells := 0, slots := 0, locals := 0 }, (some (.object "AreaCrossings$Ring")))
abbrev mX2_add : mt := (yX2_add, cX2_add, 3, { frames := 0, cells := 0, slots := 0, locals := 0 }, (some .boolean))
abbrev mX0_addCorner : mt := (yX0_addCorner, cX0_addCorner, 4, { frames := 1, cells := 0, slots := 0, locals := 22 }, (some .boolean))
abbrev mX2_clear : mt := (yX2_clear, cX2_clear, 1, { frames := 0, cells := 0, slots := 0, locals := 0 }, none)
abbrev mX0_beginHole : mt := (yX0_beginHole, cX0_beginHole, 1, { frames := 1, cells := 0, slots := 0, locals := 20 }, (some .boolean))
abbrev mX2_next : mt := (yX2_next, cX2_next, 2, { frames := 0, cells := 0, slots := 0, locals := 0 }, (some .int))
abbrev mJ9_max_7cf53 : mt := (yJ9_max_7cf53, cJ9_max_7cf53, 2, { frames := 0, cells := 0, slots := 0, locals := 0 }, (some .int))
abbrev mJ9_min_7cf53 : mt := (yJ9_min_7cf53, cJ9_min_7cf53, 2, { frames := 0, cells := 0, slots := 0, locals := 0 }, (some .int))
abbrev mX2_spans : mt := (yX2_spans, cX2_spans, 9, { frames := 1, cells := 0, slots := 0, locals := 21 }, (some .boolean))
abbrev mX2_turn : mt := (yX2_turn, cX2_turn, 13, { frames := 1, cells := 0, slots := 0, locals := 21 }, (some .long))
abbrev mX2_locate : mt := (yX2_locate, cX2_locate, 13, { frames := 2, cells := 0, slots := 0, locals := 53 }, (some .int))
abbrev mX0_contains : mt := (yX0_contains, cX0_contains, 8, { frames := 3, cells := 0, slots := 0, locals := 85 }, (some .boolean))
abbrev mX2_areOpposite : mt := (yX2_areOpposite, cX2_areOpposite, 4, { frames := 0, cells := 0, slots := 0, locals := 0 }, (some .boolean))
abbrev mX2_sidesMeet : mt := (yX2_sidesMeet, cX2_sidesMeet, 14, { frames := 2, cells := 0, slots := 0, locals := 53 }, (some .boolean))
abbrev mX2_meets : mt := (yX2_meets, cX2_meets, 4, { frames := 3, cells := 0, slots := 0, locals := 86 }, (some .boolean))
abbrev mX2_xOf : mt := (yX2_xOf, cX2_xOf, 2, { frames := 0, cells := 0, slots := 0, locals := 0 }, (some .int))
abbrev mX2_yOf : mt := (yX2_yOf, cX2_yOf, 2, { frames := 0, cells := 0, slots := 0, locals := 0 }, (some .int))
abbrev mX0_fitsAsHole : mt := (yX0_fitsAsHole, cX0_fitsAsHole, 3, { frames := 4, cells := 0, slots := 0, locals := 112 }, (some .boolean))
abbrev mX2_foldsBackAt : mt := (yX2_foldsBackAt, cX2_foldsBackAt, 8, { frames := 0, cells := 0, slots := 0, locals := 0 }, (some .boolean))
abbrev mX2_isSimple : mt := (yX2_isSimple, cX2_isSimple, 4, { frames := 3, cells := 0, slots := 0, locals := 86 }, (some .boolean))
abbrev mX0_closeRing : mt := (yX0_closeRing, cX0_closeRing, 2, { frames := 5, cells := 0, slots := 0, locals := 134 }, (some .boolean))
abbrev mX0_becomeSquare : mt := (yX0_becomeSquare, cX0_becomeSquare, 5, { frames := 1, cells := 0, slots := 0, locals := 22 }, none)
abbrev mX2_isSideNear : mt := (yX2_isSideNear, cX2_isSideNear, 25, { frames := 2, cells := 0, slots := 0, locals := 53 }, (some .boolean))
abbrev mX2_isNear : mt := (yX2_isNear, cX2_isNear, 8, { frames := 3, cells := 0, slots := 0, locals := 97 }, (some .boolean))
abbrev mX0_isInOrNear : mt := (yX0_isInOrNear, cX0_isInOrNear, 8, { frames := 4, cells := 0, slots := 0, locals := 124 }, (some .boolean))
abbrev mX1_clear : mt := (yX1_clear, cX1_clear, 1, { frames := 0, cells := 0, slots := 0, locals := 0 }, none)
abbrev mX1_size : mt := (yX1_size, cX1_size, 1, { frames := 0, cells := 0, slots := 0, locals := 0 }, (some .int))
abbrev mX1_has : mt := (yX1_has, cX1_has, 2, { frames := 0, cells := 0, slots := 0, locals := 0 }, (some .boolean))
abbrev mX1_add : mt := (yX1_add, cX1_add, 8, { frames := 0, cells := 0, slots := 0, locals := 0 }, (some .boolean))
abbrev mX1_pieceOf : mt := (yX1_pieceOf, cX1_pieceOf, 2, { frames := 1, cells := 0, slots := 0, locals := 21 }, (some .int))
abbrev mX1_areaOf : mt := (yX1_areaOf, cX1_areaOf, 2, { frames := 1, cells := 0, slots := 0, locals := 21 }, (some .int))
abbrev mX1_isEntering : mt := (yX1_isEntering, cX1_isEntering, 2, { frames := 1, cells := 0, slots := 0, locals := 21 }, (some .boolean))
abbrev mX1_overOf : mt := (yX1_overOf, cX1_overOf, 2, { frames := 1, cells := 0, slots := 0, locals := 21 }, (some .long))
abbrev mX1_underOf : mt := (yX1_underOf, cX1_underOf, 2, { frames := 1, cells := 0, slots := 0, locals := 21 }, (some .long))
abbrev mX2_holdsFirstCornerOf : mt := (yX2_holdsFirstCornerOf, cX2_holdsFirstCornerOf, 2, { frames := 3, cells := 0, slots := 0, locals := 85 }, (some .boolean))
abbrev mX2_reaches : mt := (yX2_reaches, cX2_reaches, 9, { frames := 0, cells := 0, slots := 0, locals := 0 }, (some .boolean))
abbrev mX2_reachesX : mt := (yX2_reachesX, cX2_reachesX, 5, { frames := 1, cells := 0, slots := 0, locals := 28 }, (some .boolean))
abbrev mX2_reachesY : mt := (yX2_reachesY, cX2_reachesY, 5, { frames := 1, cells := 0, slots := 0, locals := 28 }, (some .boolean))
abbrev mX3_room : mt := (yX3_room, cX3_room, 1, { frames := 0, cells := 0, slots := 0, locals := 0 }, (some .int))
abbrev mX3_add : mt := (yX3_add, cX3_add, 5, { frames := 0, cells := 0, slots := 0, locals := 0 }, (some .boolean))
abbrev mX3_applies : mt := (yX3_applies, cX3_applies, 5, { frames := 0, cells := 0, slots := 0, locals := 0 }, (some .boolean))
abbrev mX3_bar : mt := (yX3_bar, cX3_bar, 6, { frames := 1, cells := 0, slots := 0, locals := 24 }, (some .boolean))
abbrev mX3_barAny : mt := (yX3_barAny, cX3_barAny, 5, { frames := 1, cells := 0, slots := 0, locals := 24 }, (some .boolean))
abbrev mX4_greatestDivisor : mt := (yX4_greatestDivisor, cX4_greatestDivisor, 11, { frames := 0, cells := 0, slots := 0, locals := 0 }, (some .long))
abbrev mX4_isShare : mt := (yX4_isShare, cX4_isShare, 4, { frames := 0, cells := 0, slots := 0, locals := 0 }, (some .boolean))
abbrev mX4_addCut : mt := (yX4_addCut, cX4_addCut, 8, { frames := 1, cells := 0, slots := 0, locals := 30 }, none)
abbrev mX4_cutAtSide : mt := (yX4_cutAtSide, cX4_cutAtSide, 20, { frames := 2, cells := 0, slots := 0, locals := 57 }, none)
abbrev mX5_xOf : mt := (yX5_xOf, cX5_xOf, 2, { frames := 0, cells := 0, slots := 0, locals := 0 }, (some .int))
abbrev mX5_yOf : mt := (yX5_yOf, cX5_yOf, 2, { frames := 0, cells := 0, slots := 0, locals := 0 }, (some .int))
abbrev mX4_cutPiece : mt := (yX4_cutPiece, cX4_cutPiece, 7, { frames := 3, cells := 0, slots := 0, locals := 96 }, none)
abbrev mX4_isIn : mt := (yX4_isIn, cX4_isIn, 6, { frames := 4, cells := 0, slots := 0, locals := 112 }, (some .boolean))
abbrev mX4_middleOver : mt := (yX4_middleOver, cX4_middleOver, 2, { frames := 0, cells := 0, slots := 0, locals := 0 }, (some .long))
abbrev mX4_middleUnder : mt := (yX4_middleUnder, cX4_middleUnder, 2, { frames := 0, cells := 0, slots := 0, locals := 0 }, (some .long))
abbrev mX4_find : mt := (yX4_find, cX4_find, 7, { frames := 5, cells := 0, slots := 0, locals := 137 }, none)
abbrev mX4_size : mt := (yX4_size, cX4_size, 1, { frames := 0, cells := 0, slots := 0, locals := 0 }, (some .int))
abbrev mX4_beginOf : mt := (yX4_beginOf, cX4_beginOf, 2, { frames := 0, cells := 0, slots := 0, locals := 0 }, (some .int))
abbrev mX4_endOf : mt := (yX4_endOf, cX4_endOf, 2, { frames := 0, cells := 0, slots := 0, locals := 0 }, (some .int))
abbrev mX4_isPieceBegin : mt := (yX4_isPieceBegin, cX4_isPieceBegin, 2, { frames := 0, cells := 0, slots := 0, locals := 0 }, (some .boolean))
abbrev mX4_isPieceEnd : mt := (yX4_isPieceEnd, cX4_isPieceEnd, 2, { frames := 0, cells := 0, slots := 0, locals := 0 }, (some .boolean))
abbrev mX4_overOf : mt := (yX4_overOf, cX4_overOf, 2, { frames := 0, cells := 0, slots := 0, locals := 0 }, (some .long))
abbrev mX4_underOf : mt := (yX4_underOf, cX4_underOf, 2, { frames := 0, cells := 0, slots := 0, locals := 0 }, (some .long))
abbrev mX4_shareOf : mt := (yX4_shareOf, cX4_shareOf, 10, { frames := 1, cells := 0, slots := 0, locals := 21 }, (some .long))
abbrev mX5_add : mt := (yX5_add, cX5_add, 5, { frames := 0, cells := 0, slots := 0, locals := 0 }, (some .boolean))
abbrev mX5_places : mt := (yX5_places, cX5_places, 1, { frames := 0, cells := 0, slots := 0, locals := 0 }, (some .int))
abbrev mX5_pieces : mt := (yX5_pieces, cX5_pieces, 1, { frames := 1, cells := 0, slots := 0, locals := 21 }, (some .int))
abbrev mX5_hasPiece : mt := (yX5_hasPiece, cX5_hasPiece, 2, { frames := 0, cells := 0, slots := 0, locals := 0 }, (some .boolean))
abbrev mX5_secondsOf : mt := (yX5_secondsOf, cX5_secondsOf, 2, { frames := 1, cells := 0, slots := 0, locals := 21 }, (some .long))
abbrev mX5_hoursBegunOf : mt := (yX5_hoursBegunOf, cX5_hoursBegunOf, 2, { frames := 2, cells := 0, slots := 0, locals := 42 }, (some .long))
abbrev mX5_dayOf : mt := (yX5_dayOf, cX5_dayOf, 2, { frames := 1, cells := 0, slots := 0, locals := 21 }, (some .long))
abbrev mX5_isGap : mt := (yX5_isGap, cX5_isGap, 2, { frames := 2, cells := 0, slots := 0, locals := 42 }, (some .boolean))
abbrev mX5_pieceOfGap : mt := (yX5_pieceOfGap, cX5_pieceOfGap, 4, { frames := 3, cells := 0, slots := 0, locals := 63 }, (some .int))
abbrev mX5_isFast : mt := (yX5_isFast, cX5_isFast, 12, { frames := 3, cells := 0, slots := 0, locals := 63 }, (some .boolean))
abbrev mX6_isArea : mt := (yX6_isArea, cX6_isArea, 2, { frames := 0, cells := 0, slots := 0, locals := 0 }, (some .boolean))
abbrev mX6_ring : mt := (yX6_ring, cX6_ring, 2, { frames := 6, cells := 0, slots := 0, locals := 155 }, (some .boolean))
abbrev mX6_hole : mt := (yX6_hole, cX6_hole, 2, { frames := 2, cells := 0, slots := 0, locals := 40 }, (some .boolean))
abbrev mX6_isGear : mt := (yX6_isGear, cX6_isGear, 1, { frames := 0, cells := 0, slots := 0, locals := 0 }, (some .boolean))
abbrev mX6_bars : mt := (yX6_bars, cX6_bars, 5, { frames := 1, cells := 0, slots := 0, locals := 24 }, (some .boolean))
abbrev mX6_speed : mt := (yX6_speed, cX6_speed, 4, { frames := 1, cells := 0, slots := 0, locals := 22 }, (some .boolean))
abbrev mX6_firstUntouchedArea : mt := (yX6_firstUntouchedArea, cX6_firstUntouchedArea, 2, { frames := 2, cells := 0, slots := 0, locals := 40 }, (some .int))
abbrev mX6_isCoordinate : mt := (yX6_isCoordinate, cX6_isCoordinate, 2, { frames := 0, cells := 0, slots := 0, locals := 0 }, (some .boolean))
abbrev mX6_isPlace : mt := (yX6_isPlace, cX6_isPlace, 4, { frames := 1, cells := 0, slots := 0, locals := 21 }, (some .boolean))
abbrev mX6_report : mt := (yX6_report, cX6_report, 10, { frames := 3, cells := 0, slots := 0, locals := 61 }, (some .int))
abbrev mX6_track : mt := (yX6_track, cX6_track, 1, { frames := 0, cells := 0, slots := 0, locals := 0 }, (some .int))
abbrev mX6_isTrack : mt := (yX6_isTrack, cX6_isTrack, 2, { frames := 0, cells := 0, slots := 0, locals := 0 }, (some .boolean))
abbrev mX6_place : mt := (yX6_place, cX6_place, 8, { frames := 2, cells := 0, slots := 0, locals := 44 }, (some .boolean))
abbrev mX6_isThere : mt := (yX6_isThere, cX6_isThere, 2, { frames := 1, cells := 0, slots := 0, locals := 21 }, (some .boolean))
abbrev mX6_counts : mt := (yX6_counts, cX6_counts, 5, { frames := 4, cells := 0, slots := 0, locals := 94 }, (some .boolean))
abbrev mX6_noteCrossings : mt := (yX6_noteCrossings, cX6_noteCrossings, 11, { frames := 6, cells := 0, slots := 0, locals := 163 }, (some .boolean))
abbrev mX6_run : mt := (yX6_run, cX6_run, 6, { frames := 7, cells := 0, slots := 0, locals := 193 }, (some .int))
abbrev mX6_side : mt := (yX6_side, cX6_side, 2, { frames := 2, cells := 0, slots := 0, locals := 42 }, (some .int))
abbrev mX6_thousandthsIn : mt := (yX6_thousandthsIn, cX6_thousandthsIn, 7, { frames := 6, cells := 0, slots := 0, locals := 163 }, (some .long))
abbrev mX6_inside : mt := (yX6_inside, cX6_inside, 8, { frames := 7, cells := 0, slots := 0, locals := 189 }, (some .long))
abbrev mJ9_max_f86c9 : mt := (yJ9_max_f86c9, cJ9_max_f86c9, 4, { frames := 0, cells := 0, slots := 0, locals := 0 }, (some .long))
abbrev mJ9_min_f86c9 : mt := (yJ9_min_f86c9, cJ9_min_f86c9, 4, { frames := 0, cells := 0, slots := 0, locals := 0 }, (some .long))
abbrev mX6_mayHaveBeenNear : mt := (yX6_mayHaveBeenNear, cX6_mayHaveBeenNear, 14, { frames := 3, cells := 0, slots := 0, locals := 63 }, (some .boolean))
abbrev mX6_maybe : mt := (yX6_maybe, cX6_maybe, 5, { frames := 4, cells := 0, slots := 0, locals := 96 }, (some .boolean))
abbrev mX6_buffer : mt := (yX6_buffer, cX6_buffer, 8, { frames := 5, cells := 0, slots := 0, locals := 151 }, (some .int))
abbrev mX6_told : mt := (yX6_told, cX6_told, 4, { frames := 2, cells := 0, slots := 0, locals := 48 }, (some .boolean))
abbrev mX6_overlap : mt := (yX6_overlap, cX6_overlap, 5, { frames := 4, cells := 0, slots := 0, locals := 109 }, (some .int))
abbrev mX6_cell : mt := (yX6_cell, cX6_cell, 7, { frames := 4, cells := 0, slots := 0, locals := 112 }, (some .int))
abbrev mX7_thrown : mt := (yX7_thrown, cX7_thrown, 1, { frames := 0, cells := 0, slots := 0, locals := 0 }, (some .int))
abbrev mX7_isIn : mt := (yX7_isIn, cX7_isIn, 6, { frames := 0, cells := 0, slots := 0, locals := 0 }, (some .boolean))
abbrev mX7_isArea : mt := (yX7_isArea, cX7_isArea, 2, { frames := 0, cells := 0, slots := 0, locals := 0 }, (some .boolean))
abbrev mX7_isThere : mt := (yX7_isThere, cX7_isThere, 2, { frames := 1, cells := 0, slots := 0, locals := 21 }, (some .boolean))
abbrev mX7_signOf : mt := (yX7_signOf, cX7_signOf, 2, { frames := 0, cells := 0, slots := 0, locals := 0 }, (some .int))
abbrev mX7_less : mt := (yX7_less, cX7_less, 4, { frames := 0, cells := 0, slots := 0, locals := 0 }, (some .long))
abbrev mX7_more : mt := (yX7_more, cX7_more, 4, { frames := 0, cells := 0, slots := 0, locals := 0 }, (some .long))
abbrev mX7_divisor : mt := (yX7_divisor, cX7_divisor, 10, { frames := 0, cells := 0, slots := 0, locals := 0 }, (some .long))
abbrev mX7_at : mt := (yX7_at, cX7_at, 3, { frames := 0, cells := 0, slots := 0, locals := 0 }, (some .int))
abbrev mX7_wayOf : mt := (yX7_wayOf, cX7_wayOf, 12, { frames := 1, cells := 0, slots := 0, locals := 21 }, (some .int))
abbrev mX7_isBetween : mt := (yX7_isBetween, cX7_isBetween, 12, { frames := 1, cells := 0, slots := 0, locals := 23 }, (some .boolean))
abbrev mX7_doMeet : mt := (yX7_doMeet, cX7_doMeet, 10, { frames := 2, cells := 0, slots := 0, locals := 54 }, (some .boolean))
abbrev mX7_doFold : mt := (yX7_doFold, cX7_doFold, 12, { frames := 0, cells := 0, slots := 0, locals := 0 }, (some .boolean))
abbrev mX7_isSimple : mt := (yX7_isSimple, cX7_isSimple, 7, { frames := 3, cells := 0, slots := 0, locals := 83 }, (some .boolean))
abbrev mX7_ringsMeet : mt := (yX7_ringsMeet, cX7_ringsMeet, 5, { frames := 3, cells := 0, slots := 0, locals := 83 }, (some .boolean))
abbrev mX7_where : mt := (yX7_where, cX7_where, 23, { frames := 2, cells := 0, slots := 0, locals := 54 }, (some .int))
abbrev mX7_has : mt := (yX7_has, cX7_has, 10, { frames := 3, cells := 0, slots := 0, locals := 96 }, (some .boolean))
abbrev mX7_corner : mt := (yX7_corner, cX7_corner, 7, { frames := 1, cells := 0, slots := 0, locals := 25 }, (some .boolean))
abbrev mX7_ring : mt := (yX7_ring, cX7_ring, 5, { frames := 4, cells := 0, slots := 0, locals := 125 }, (some .boolean))
abbrev mX7_hole : mt := (yX7_hole, cX7_hole, 2, { frames := 2, cells := 0, slots := 0, locals := 42 }, (some .boolean))
abbrev mX7_rule : mt := (yX7_rule, cX7_rule, 5, { frames := 0, cells := 0, slots := 0, locals := 0 }, none)
abbrev mX7_bars : mt := (yX7_bars, cX7_bars, 5, { frames := 1, cells := 0, slots := 0, locals := 25 }, (some .boolean))
abbrev mX7_speed : mt := (yX7_speed, cX7_speed, 4, { frames := 1, cells := 0, slots := 0, locals := 25 }, (some .boolean))
abbrev mX7_report : mt := (yX7_report, cX7_report, 12, { frames := 1, cells := 0, slots := 0, locals := 25 }, (some .int))
abbrev mX7_isBarred : mt := (yX7_isBarred, cX7_isBarred, 7, { frames := 0, cells := 0, slots := 0, locals := 0 }, (some .boolean))
abbrev mX7_told : mt := (yX7_told, cX7_told, 4, { frames := 2, cells := 0, slots := 0, locals := 42 }, (some .boolean))
abbrev mX7_track : mt := (yX7_track, cX7_track, 1, { frames := 0, cells := 0, slots := 0, locals := 0 }, (some .int))
abbrev mX7_isTrack : mt := (yX7_isTrack, cX7_isTrack, 2, { frames := 0, cells := 0, slots := 0, locals := 0 }, (some .boolean))
abbrev mX7_place : mt := (yX7_place, cX7_place, 9, { frames := 1, cells := 0, slots := 0, locals := 25 }, (some .boolean))
abbrev mX7_lasts : mt := (yX7_lasts, cX7_lasts, 2, { frames := 0, cells := 0, slots := 0, locals := 0 }, (some .long))
abbrev mX7_isGap : mt := (yX7_isGap, cX7_isGap, 2, { frames := 1, cells := 0, slots := 0, locals := 21 }, (some .boolean))
abbrev mX7_counts : mt := (yX7_counts, cX7_counts, 12, { frames := 2, cells := 0, slots := 0, locals := 42 }, (some .boolean))
abbrev mX7_cut : mt := (yX7_cut, cX7_cut, 13, { frames := 1, cells := 0, slots := 0, locals := 29 }, none)
abbrev mX7_cutAt : mt := (yX7_cutAt, cX7_cutAt, 21, { frames := 2, cells := 0, slots := 0, locals := 61 }, none)
abbrev mX7_hasAt : mt := (yX7_hasAt, cX7_hasAt, 7, { frames := 4, cells := 0, slots := 0, locals := 125 }, (some .boolean))
abbrev mX7_stretch : mt := (yX7_stretch, cX7_stretch, 6, { frames := 5, cells := 0, slots := 0, locals := 151 }, none)
abbrev mX7_add : mt := (yX7_add, cX7_add, 5, { frames := 0, cells := 0, slots := 0, locals := 0 }, none)
abbrev mX7_runPiece : mt := (yX7_runPiece, cX7_runPiece, 8, { frames := 6, cells := 0, slots := 0, locals := 176 }, none)
abbrev mX7_run : mt := (yX7_run, cX7_run, 5, { frames := 7, cells := 0, slots := 0, locals := 203 }, (some .int))
abbrev mX7_entry : mt := (yX7_entry, cX7_entry, 3, { frames := 1, cells := 0, slots := 0, locals := 25 }, (some .long))
abbrev mX7_side : mt := (yX7_side, cX7_side, 2, { frames := 0, cells := 0, slots := 0, locals := 0 }, (some .int))
abbrev mX7_within : mt := (yX7_within, cX7_within, 8, { frames := 6, cells := 0, slots := 0, locals := 176 }, (some .long))
abbrev mX7_inside : mt := (yX7_inside, cX7_inside, 7, { frames := 7, cells := 0, slots := 0, locals := 203 }, (some .long))
abbrev mX7_maybe : mt := (yX7_maybe, cX7_maybe, 26, { frames := 2, cells := 0, slots := 0, locals := 42 }, (some .boolean))
abbrev mX7_isNear : mt := (yX7_isNear, cX7_isNear, 23, { frames := 0, cells := 0, slots := 0, locals := 0 }, (some .boolean))
abbrev mX7_isByArea : mt := (yX7_isByArea, cX7_isByArea, 12, { frames := 4, cells := 0, slots := 0, locals := 125 }, (some .boolean))
abbrev mX7_buffer : mt := (yX7_buffer, cX7_buffer, 7, { frames := 5, cells := 0, slots := 0, locals := 156 }, (some .int))
abbrev mX7_overlap : mt := (yX7_overlap, cX7_overlap, 5, { frames := 4, cells := 0, slots := 0, locals := 107 }, (some .int))
abbrev mX7_cell : mt := (yX7_cell, cX7_cell, 7, { frames := 4, cells := 0, slots := 0, locals := 125 }, (some .int))
theorem kcX1_35 : Cond.constantLong RX1 35 (-1) ∈ tbG := tbG_in (by decide +kernel) rfl
theorem kcX4_94 : Cond.constantLong RX4 94 (-1) ∈ tbG := tbG_in (by decide +kernel) rfl
theorem kcX4_104 : Cond.constantLong RX4 104 (2) ∈ tbG := tbG_in (by decide +kernel) rfl
theorem kcX5_24 : Cond.constantLong RX5 24 (40000000) ∈ tbG := tbG_in (by decide +kernel) rfl
theorem kcX5_40 : Cond.constantLong RX5 40 (3600) ∈ tbG := tbG_in (by decide +kernel) rfl
theorem kcX5_42 : Cond.constantLong RX5 42 (86400) ∈ tbG := tbG_in (by decide +kernel) rfl
theorem kcX5_44 : Cond.constantLong RX5 44 (-1) ∈ tbG := tbG_in (by decide +kernel) rfl
theorem kcX6_89 : Cond.constantLong RX6 89 (100000) ∈ tbG := tbG_in (by decide +kernel) rfl
theorem kcX6_95 : Cond.constantLong RX6 95 (398) ∈ tbG := tbG_in (by decide +kernel) rfl
theorem kcX6_133 : Cond.constantLong RX6 133 (-1) ∈ tbG := tbG_in (by decide +kernel) rfl
theorem kcX6_168 : Cond.constantLong RX6 168 (400) ∈ tbG := tbG_in (by decide +kernel) rfl
theorem kcX6_209 : Cond.constantLong RX6 209 (-200) ∈ tbG := tbG_in (by decide +kernel) rfl
theorem kcX6_211 : Cond.constantLong RX6 211 (200) ∈ tbG := tbG_in (by decide +kernel) rfl
theorem kcX6_261 : Cond.constantLong RX6 261 (1000) ∈ tbG := tbG_in (by decide +kernel) rfl
theorem kcX7_118 : Cond.constantLong RX7 118 (-200) ∈ tbG := tbG_in (by decide +kernel) rfl
theorem kcX7_120 : Cond.constantLong RX7 120 (200) ∈ tbG := tbG_in (by decide +kernel) rfl
theorem kcX7_143 : Cond.constantLong RX7 143 (7) ∈ tbG := tbG_in (by decide +kernel) rfl
theorem kcX7_145 : Cond.constantLong RX7 145 (400) ∈ tbG := tbG_in (by decide +kernel) rfl
theorem kcX7_151 : Cond.constantLong RX7 151 (100000) ∈ tbG := tbG_in (by decide +kernel) rfl
theorem kcX7_153 : Cond.constantLong RX7 153 (398) ∈ tbG := tbG_in (by decide +kernel) rfl
theorem kcX7_155 : Cond.constantLong RX7 155 (20) ∈ tbG := tbG_in (by decide +kernel) rfl
theorem kcX7_167 : Cond.constantLong RX7 167 (40000000) ∈ tbG := tbG_in (by decide +kernel) rfl
theorem kcX7_173 : Cond.constantLong RX7 173 (3600) ∈ tbG := tbG_in (by decide +kernel) rfl
theorem kcX7_178 : Cond.constantLong RX7 178 (86400) ∈ tbG := tbG_in (by decide +kernel) rfl
theorem kcX7_201 : Cond.constantLong RX7 201 (2) ∈ tbG := tbG_in (by decide +kernel) rfl
theorem kcX7_222 : Cond.constantLong RX7 222 (-1) ∈ tbG := tbG_in (by decide +kernel) rfl
theorem kcX7_224 : Cond.constantLong RX7 224 (3) ∈ tbG := tbG_in (by decide +kernel) rfl
theorem kcX7_226 : Cond.constantLong RX7 226 (-2) ∈ tbG := tbG_in (by decide +kernel) rfl
theorem kcX7_228 : Cond.constantLong RX7 228 (1000) ∈ tbG := tbG_in (by decide +kernel) rfl
theorem kcX7_234 : Cond.constantLong RX7 234 (3599) ∈ tbG := tbG_in (by decide +kernel) rfl
theorem kX0_28 : cokV RX0 mX0_outer 28 0 0 := by unfold cokV cokB; decide +kernel
theorem kX0_32 : cokV RX0 mX2_size 32 0 2 := by unfold cokV cokB; decide +kernel
theorem kX0_36 : cokV RX0 mX0_beingMade 36 0 0 := by unfold cokV cokB; decide +kernel
theorem kX0_39 : cokV RX0 mX2_add 39 2 2 := by unfold cokV cokB; decide +kernel
theorem kX0_43 : cokV RX0 mX2_clear 43 0 2 := by unfold cokV cokB; decide +kernel
theorem kX0_46 : cokV RX0 mX2_isSimple 46 0 2 := by unfold cokV cokB; decide +kernel
theorem kX0_50 : cokV RX0 mX0_fitsAsHole 50 1 0 := by unfold cokV cokB; decide +kernel
theorem kX0_54 : cokV RX0 mX0_ringOf 54 1 0 := by unfold cokV cokB; decide +kernel
theorem kX0_58 : cokV RX0 mX2_meets 58 1 2 := by unfold cokV cokB; decide +kernel
theorem kX0_61 : cokV RX0 mX2_xOf 61 1 2 := by unfold cokV cokB; decide +kernel
theorem kX0_65 : cokV RX0 mX2_yOf 65 1 2 := by unfold cokV cokB; decide +kernel
theorem kX0_68 : cokV RX0 mX0_contains 68 3 0 := by unfold cokV cokB; decide +kernel
theorem kX0_72 : cokV RX0 mX0_isThere 72 0 0 := by unfold cokV cokB; decide +kernel
theorem kX0_75 : cokV RX0 mX2_locate 75 3 2 := by unfold cokV cokB; decide +kernel
theorem kX0_79 : cokV RX0 mX2_isNear 79 3 2 := by unfold cokV cokB; decide +kernel
theorem kX1_31 : cokV RX1 mX1_has 31 1 1 := by unfold cokV cokB; decide +kernel
theorem kX2_20 : cokV RX2 mX2_next 20 1 2 := by unfold cokV cokB; decide +kernel
theorem kX2_24 : cokV RX2 mX2_foldsBackAt 24 3 2 := by unfold cokV cokB; decide +kernel
theorem kX2_28 : cokV RX2 mX2_sidesMeet 28 3 2 := by unfold cokV cokB; decide +kernel
theorem kX2_32 : cokV RX2 mX2_turn 32 4 2 := by unfold cokV cokB; decide +kernel
theorem kX2_36 : cokS RX2 mX2_areOpposite 36 2 := by unfold cokS cokB; decide +kernel
theorem kX2_40 : cokV RX2 mX2_spans 40 4 2 := by unfold cokV cokB; decide +kernel
theorem kX2_44 : cokS RX2 mJ9_min_7cf53 44 2 := by unfold cokS cokB; decide +kernel
theorem kX2_50 : cokS RX2 mJ9_max_7cf53 50 2 := by unfold cokS cokB; decide +kernel
theorem kX2_53 : cokV RX2 mX2_xOf 53 1 2 := by unfold cokV cokB; decide +kernel
theorem kX2_56 : cokV RX2 mX2_yOf 56 1 2 := by unfold cokV cokB; decide +kernel
theorem kX2_59 : cokV RX2 mX2_locate 59 3 2 := by unfold cokV cokB; decide +kernel
theorem kX2_63 : cokV RX2 mX2_isSideNear 63 4 2 := by unfold cokV cokB; decide +kernel
theorem kX2_66 : cokV RX2 mX2_reaches 66 3 2 := by unfold cokV cokB; decide +kernel
theorem kX3_26 : cokV RX3 mX3_applies 26 3 3 := by unfold cokV cokB; decide +kernel
theorem kX4_47 : cokV RX4 mX4_cutPiece 47 3 4 := by unfold cokV cokB; decide +kernel
theorem kX4_51 : cokV RX4 mX4_isIn 51 3 4 := by unfold cokV cokB; decide +kernel
theorem kX4_55 : cokV RX4 mX4_middleOver 55 1 4 := by unfold cokV cokB; decide +kernel
theorem kX4_59 : cokV RX4 mX4_middleUnder 59 1 4 := by unfold cokV cokB; decide +kernel
theorem kX4_62 : cokV RX4 mX5_xOf 62 1 5 := by unfold cokV cokB; decide +kernel
theorem kX4_68 : cokV RX4 mX5_yOf 68 1 5 := by unfold cokV cokB; decide +kernel
theorem kX4_71 : cokV RX4 mX4_addCut 71 2 4 := by unfold cokV cokB; decide +kernel
theorem kX4_75 : cokV RX4 mX0_closedRings 75 0 0 := by unfold cokV cokB; decide +kernel
theorem kX4_79 : cokV RX4 mX0_ringOf 79 1 0 := by unfold cokV cokB; decide +kernel
theorem kX4_83 : cokV RX4 mX2_size 83 0 2 := by unfold cokV cokB; decide +kernel
theorem kX4_85 : cokV RX4 mX4_cutAtSide 85 2 4 := by unfold cokV cokB; decide +kernel
theorem kX4_89 : cokV RX4 mX2_next 89 1 2 := by unfold cokV cokB; decide +kernel
theorem kX4_92 : cokV RX4 mX2_xOf 92 1 2 := by unfold cokV cokB; decide +kernel
theorem kX4_93 : cokV RX4 mX2_yOf 93 1 2 := by unfold cokV cokB; decide +kernel
theorem kX4_96 : cokS RX4 mX4_isShare 96 2 := by unfold cokS cokB; decide +kernel
theorem kX4_100 : cokS RX4 mX4_greatestDivisor 100 2 := by unfold cokS cokB; decide +kernel
theorem kX4_106 : cokV RX4 mX0_contains 106 3 0 := by unfold cokV cokB; decide +kernel
theorem kX4_110 : cokV RX4 mX4_beginOf 110 1 4 := by unfold cokV cokB; decide +kernel
theorem kX4_113 : cokV RX4 mX4_endOf 113 1 4 := by unfold cokV cokB; decide +kernel
theorem kX4_116 : cokV RX4 mX4_underOf 116 1 4 := by unfold cokV cokB; decide +kernel
theorem kX4_119 : cokV RX4 mX4_overOf 119 1 4 := by unfold cokV cokB; decide +kernel
theorem kX5_26 : cokS RX5 mJ9_max_7cf53 26 2 := by unfold cokS cokB; decide +kernel
theorem kX5_32 : cokV RX5 mX5_hasPiece 32 1 5 := by unfold cokV cokB; decide +kernel
theorem kX5_36 : cokV RX5 mX5_secondsOf 36 1 5 := by unfold cokV cokB; decide +kernel
theorem kX5_46 : cokV RX5 mX5_pieces 46 0 5 := by unfold cokV cokB; decide +kernel
theorem kX5_50 : cokV RX5 mX5_isGap 50 1 5 := by unfold cokV cokB; decide +kernel
theorem kX5_53 : cokV RX5 mX5_xOf 53 1 5 := by unfold cokV cokB; decide +kernel
theorem kX5_57 : cokV RX5 mX5_yOf 57 1 5 := by unfold cokV cokB; decide +kernel
theorem kX6_60 : cokV RX6 mX6_isArea 60 1 6 := by unfold cokV cokB; decide +kernel
theorem kX6_67 : cokS RX6 mX6_isPlace 67 2 := by unfold cokS cokB; decide +kernel
theorem kX6_75 : cokV RX6 mX0_closeRing 75 0 0 := by unfold cokV cokB; decide +kernel
theorem kX6_79 : cokV RX6 mX0_beginHole 79 0 0 := by unfold cokV cokB; decide +kernel
theorem kX6_82 : cokS RX6 mX6_isGear 82 1 := by unfold cokS cokB; decide +kernel
theorem kX6_85 : cokV RX6 mX3_add 85 4 3 := by unfold cokV cokB; decide +kernel
theorem kX6_91 : cokV RX6 mX0_setFastFrom 91 1 0 := by unfold cokV cokB; decide +kernel
theorem kX6_97 : cokV RX6 mX6_firstUntouchedArea 97 0 6 := by unfold cokV cokB; decide +kernel
theorem kX6_101 : cokV RX6 mX3_room 101 0 3 := by unfold cokV cokB; decide +kernel
theorem kX6_104 : cokV RX6 mX0_becomeSquare 104 3 0 := by unfold cokV cokB; decide +kernel
theorem kX6_108 : cokV RX6 mX6_isTrack 108 1 6 := by unfold cokV cokB; decide +kernel
theorem kX6_111 : cokV RX6 mX5_add 111 3 5 := by unfold cokV cokB; decide +kernel
theorem kX6_114 : cokV RX6 mX1_clear 114 0 1 := by unfold cokV cokB; decide +kernel
theorem kX6_117 : cokV RX6 mX5_pieces 117 0 5 := by unfold cokV cokB; decide +kernel
theorem kX6_120 : cokV RX6 mX6_counts 120 4 6 := by unfold cokV cokB; decide +kernel
theorem kX6_124 : cokV RX6 mX6_noteCrossings 124 4 6 := by unfold cokV cokB; decide +kernel
theorem kX6_127 : cokV RX6 mX1_size 127 0 1 := by unfold cokV cokB; decide +kernel
theorem kX6_130 : cokV RX6 mX1_has 130 1 1 := by unfold cokV cokB; decide +kernel
theorem kX6_151 : cokV RX6 mX1_isEntering 151 1 1 := by unfold cokV cokB; decide +kernel
theorem kX6_154 : cokV RX6 mX6_isThere 154 1 6 := by unfold cokV cokB; decide +kernel
theorem kX6_157 : cokV RX6 mX6_thousandthsIn 157 3 6 := by unfold cokV cokB; decide +kernel
theorem kX6_161 : cokV RX6 mX5_pieceOfGap 161 1 5 := by unfold cokV cokB; decide +kernel
theorem kX6_164 : cokS RX6 mX6_mayHaveBeenNear 164 3 := by unfold cokS cokB; decide +kernel
theorem kX6_170 : cokV RX6 mX5_places 170 0 5 := by unfold cokV cokB; decide +kernel
theorem kX6_173 : cokV RX6 mX5_xOf 173 1 5 := by unfold cokV cokB; decide +kernel
theorem kX6_176 : cokV RX6 mX5_yOf 176 1 5 := by unfold cokV cokB; decide +kernel
theorem kX6_179 : cokV RX6 mX0_isInOrNear 179 3 0 := by unfold cokV cokB; decide +kernel
theorem kX6_183 : cokV RX6 mX3_barAny 183 2 3 := by unfold cokV cokB; decide +kernel
theorem kX6_187 : cokV RX6 mX0_outer 187 0 0 := by unfold cokV cokB; decide +kernel
theorem kX6_191 : cokV RX6 mX2_meets 191 1 2 := by unfold cokV cokB; decide +kernel
theorem kX6_197 : cokV RX6 mX2_holdsFirstCornerOf 197 1 2 := by unfold cokV cokB; decide +kernel
theorem kX6_200 : cokV RX6 mX0_contains 200 3 0 := by unfold cokV cokB; decide +kernel
theorem kX6_203 : cokV RX6 mX0_isThere 203 0 0 := by unfold cokV cokB; decide +kernel
theorem kX6_205 : cokS RX6 mX6_isCoordinate 205 1 := by unfold cokS cokB; decide +kernel
theorem kX6_213 : cokV RX6 mX0_isUntouched 213 0 0 := by unfold cokV cokB; decide +kernel
theorem kX6_216 : cokV RX6 mX5_hasPiece 216 1 5 := by unfold cokV cokB; decide +kernel
theorem kX6_219 : cokV RX6 mX5_isGap 219 1 5 := by unfold cokV cokB; decide +kernel
theorem kX6_222 : cokV RX6 mX5_dayOf 222 1 5 := by unfold cokV cokB; decide +kernel
theorem kX6_225 : cokV RX6 mX3_bar 225 3 3 := by unfold cokV cokB; decide +kernel
theorem kX6_229 : cokV RX6 mX0_fastFrom 229 0 0 := by unfold cokV cokB; decide +kernel
theorem kX6_233 : cokV RX6 mX5_isFast 233 2 5 := by unfold cokV cokB; decide +kernel
theorem kX6_236 : cokV RX6 mX4_find 236 3 4 := by unfold cokV cokB; decide +kernel
theorem kX6_240 : cokV RX6 mX4_size 240 0 4 := by unfold cokV cokB; decide +kernel
theorem kX6_241 : cokV RX6 mX4_beginOf 241 1 4 := by unfold cokV cokB; decide +kernel
theorem kX6_244 : cokV RX6 mX4_endOf 244 1 4 := by unfold cokV cokB; decide +kernel
theorem kX6_247 : cokV RX6 mX4_isPieceBegin 247 1 4 := by unfold cokV cokB; decide +kernel
theorem kX6_250 : cokV RX6 mX4_overOf 250 1 4 := by unfold cokV cokB; decide +kernel
theorem kX6_251 : cokV RX6 mX4_underOf 251 1 4 := by unfold cokV cokB; decide +kernel
theorem kX6_252 : cokV RX6 mX1_add 252 5 1 := by unfold cokV cokB; decide +kernel
theorem kX6_255 : cokV RX6 mX4_isPieceEnd 255 1 4 := by unfold cokV cokB; decide +kernel
theorem kX6_258 : cokV RX6 mX5_secondsOf 258 1 5 := by unfold cokV cokB; decide +kernel
theorem kX6_263 : cokV RX6 mX4_shareOf 263 2 4 := by unfold cokV cokB; decide +kernel
theorem kX6_267 : cokV RX6 mX5_hoursBegunOf 267 1 5 := by unfold cokV cokB; decide +kernel
theorem kX6_270 : cokS RX6 mJ9_min_f86c9 270 2 := by unfold cokS cokB; decide +kernel
theorem kX6_273 : cokS RX6 mJ9_max_f86c9 273 2 := by unfold cokS cokB; decide +kernel
theorem kX6_275 : cokV RX6 mX2_reachesX 275 2 2 := by unfold cokV cokB; decide +kernel
theorem kX6_278 : cokV RX6 mX2_reachesY 278 2 2 := by unfold cokV cokB; decide +kernel
theorem kX7_79 : cokV RX7 mX7_isArea 79 1 7 := by unfold cokV cokB; decide +kernel
theorem kX7_83 : cokS RX7 mX7_signOf 83 1 := by unfold cokS cokB; decide +kernel
theorem kX7_87 : cokS RX7 mX7_less 87 2 := by unfold cokS cokB; decide +kernel
theorem kX7_91 : cokS RX7 mX7_more 91 2 := by unfold cokS cokB; decide +kernel
theorem kX7_94 : cokS RX7 mX7_wayOf 94 6 := by unfold cokS cokB; decide +kernel
theorem kX7_98 : cokS RX7 mX7_isBetween 98 6 := by unfold cokS cokB; decide +kernel
theorem kX7_102 : cokV RX7 mX7_at 102 2 7 := by unfold cokV cokB; decide +kernel
theorem kX7_106 : cokV RX7 mX7_doFold 106 3 7 := by unfold cokV cokB; decide +kernel
theorem kX7_110 : cokV RX7 mX7_doMeet 110 4 7 := by unfold cokV cokB; decide +kernel
theorem kX7_114 : cokV RX7 mX7_where 114 4 7 := by unfold cokV cokB; decide +kernel
theorem kX7_122 : cokS RX7 mX7_isIn 122 3 := by unfold cokS cokB; decide +kernel
theorem kX7_126 : cokV RX7 mX7_isSimple 126 1 7 := by unfold cokV cokB; decide +kernel
theorem kX7_129 : cokV RX7 mX7_ringsMeet 129 2 7 := by unfold cokV cokB; decide +kernel
theorem kX7_133 : cokV RX7 mX7_has 133 4 7 := by unfold cokV cokB; decide +kernel
theorem kX7_137 : cokV RX7 mX7_isThere 137 1 7 := by unfold cokV cokB; decide +kernel
theorem kX7_147 : cokV RX7 mX7_rule 147 4 7 := by unfold cokV cokB; decide +kernel
theorem kX7_157 : cokV RX7 mX7_isBarred 157 3 7 := by unfold cokV cokB; decide +kernel
theorem kX7_164 : cokV RX7 mX7_isTrack 164 1 7 := by unfold cokV cokB; decide +kernel
theorem kX7_169 : cokV RX7 mX7_lasts 169 1 7 := by unfold cokV cokB; decide +kernel
theorem kX7_175 : cokV RX7 mX7_isGap 175 1 7 := by unfold cokV cokB; decide +kernel
theorem kX7_180 : cokS RX7 mX7_divisor 180 2 := by unfold cokS cokB; decide +kernel
theorem kX7_186 : cokV RX7 mX7_cut 186 2 7 := by unfold cokV cokB; decide +kernel
theorem kX7_190 : cokV RX7 mX7_cutAt 190 3 7 := by unfold cokV cokB; decide +kernel
theorem kX7_197 : cokV RX7 mX7_hasAt 197 4 7 := by unfold cokV cokB; decide +kernel
theorem kX7_206 : cokV RX7 mX7_counts 206 3 7 := by unfold cokV cokB; decide +kernel
theorem kX7_209 : cokV RX7 mX7_stretch 209 2 7 := by unfold cokV cokB; decide +kernel
theorem kX7_213 : cokV RX7 mX7_add 213 4 7 := by unfold cokV cokB; decide +kernel
theorem kX7_216 : cokV RX7 mX7_runPiece 216 4 7 := by unfold cokV cokB; decide +kernel
theorem kX7_230 : cokV RX7 mX7_within 230 2 7 := by unfold cokV cokB; decide +kernel
theorem kX7_236 : cokV RX7 mX7_isNear 236 5 7 := by unfold cokV cokB; decide +kernel
theorem kX7_240 : cokV RX7 mX7_isByArea 240 4 7 := by unfold cokV cokB; decide +kernel
